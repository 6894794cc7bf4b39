abbrev rm_X5_cutTo : Room := { frames := 0, cells := 0, slots := 0, locals := 0 }
abbrev kw_X5_cutTo : Cond := .code yX5_cutTo cX5_cutTo 3 (some .long)
abbrev w_X5_cutTo (G : GE) : va_W := []
section
variable {p : Program} {l : Launch} {e : Env} {s : State} {m : MethodId} {args : Array Value} {below : List Frame} {meth : Method} {c : Code} {A : Nat → Prop} {G : GE} {r : Int64}
set_option maxRecDepth 100000 in
set_option maxHeartbeats 4000000 in
theorem c_X5_cutTo (l : Launch) (G : GE) (x0 : Int32) (x1 : Int64) (r : Int64) (hf : f_X5_cutTo x0 x1 = some r) : CL l G yX5_cutTo kw_X5_cutTo rm_X5_cutTo [.int x0, .long x1] (w_X5_cutTo G ) r (w_X5_cutTo G ) := by
  refine en_L (cc := cX5_cutTo) (maxL := 3) (ret := (some .long)) (by decide +kernel) (Nat.le_of_ble_eq_true rfl) ?_
  intro p e s m args below meth c A ls C S hl
  have hl : lv_has ls 3 [(0, .int x0), (1, .long x1)] := hl
  have C : Cx p s m args meth c cX5_cutTo (some .long) 3 RX5 G A := C
  unfold f_X5_cutTo at hf
  have hx := C.1
  have hb := C.2.1
  have hown := C.2.2.2.2.1
  have hts := C.2.2.2.2.2.1
  have hN := C.2.2.2.2.2.2.2.2.2.2
  refine lv_iload_n (pc := 0) hx hb dX5_cutTo_0 rfl (lv_at hl 0 rfl) ?_
  by_cases s1_0 : x0 = (0 : Int32)
  · have hf := ifp s1_0 hf
    refine lv_tableIn (tgt := 32) (off := 31) (x := x0) (pc := 1) hx hb dX5_cutTo_1 (by rw [s1_0]; decide) (by rw [s1_0]; decide) (by rw [s1_0]; decide) (by decide) ?_
    refine lv_lload_n (pc := 32) hx hb dX5_cutTo_32 rfl (lv_at hl 1 rfl) ?_
    refine lv_l2i (pc := 33) hx hb dX5_cutTo_33 rfl ?_
    refine lv_i2b (pc := 34) hx hb dX5_cutTo_34 rfl ?_
    refine lv_i2l (pc := 35) hx hb dX5_cutTo_35 rfl ?_
    cases hf
    exact x_lret (pc := 36) C S dX5_cutTo_36
  have hf := ifn s1_0 hf
  by_cases s1_1 : x0 = (1 : Int32)
  · have hf := ifp s1_1 hf
    refine lv_tableIn (tgt := 37) (off := 36) (x := x0) (pc := 1) hx hb dX5_cutTo_1 (by rw [s1_1]; decide) (by rw [s1_1]; decide) (by rw [s1_1]; decide) (by decide) ?_
    refine lv_lload_n (pc := 37) hx hb dX5_cutTo_37 rfl (lv_at hl 1 rfl) ?_
    refine lv_l2i (pc := 38) hx hb dX5_cutTo_38 rfl ?_
    refine lv_i2s (pc := 39) hx hb dX5_cutTo_39 rfl ?_
    refine lv_i2l (pc := 40) hx hb dX5_cutTo_40 rfl ?_
    cases hf
    exact x_lret (pc := 41) C S dX5_cutTo_41
  have hf := ifn s1_1 hf
  by_cases s1_2 : x0 = (2 : Int32)
  · have hf := ifp s1_2 hf
    refine lv_tableIn (tgt := 42) (off := 41) (x := x0) (pc := 1) hx hb dX5_cutTo_1 (by rw [s1_2]; decide) (by rw [s1_2]; decide) (by rw [s1_2]; decide) (by decide) ?_
    refine lv_lload_n (pc := 42) hx hb dX5_cutTo_42 rfl (lv_at hl 1 rfl) ?_
    refine lv_l2i (pc := 43) hx hb dX5_cutTo_43 rfl ?_
    refine lv_i2l (pc := 44) hx hb dX5_cutTo_44 rfl ?_
    cases hf
    exact x_lret (pc := 45) C S dX5_cutTo_45
  have hf := ifn s1_2 hf
  by_cases s1_3 : x0 = (3 : Int32)
  · have hf := ifp s1_3 hf
    refine lv_tableIn (tgt := 46) (off := 45) (x := x0) (pc := 1) hx hb dX5_cutTo_1 (by rw [s1_3]; decide) (by rw [s1_3]; decide) (by rw [s1_3]; decide) (by decide) ?_
    refine lv_lload_n (pc := 46) hx hb dX5_cutTo_46 rfl (lv_at hl 1 rfl) ?_
    cases hf
    exact x_lret (pc := 47) C S dX5_cutTo_47
  have hf := ifn s1_3 hf
  have z1_0 := lv_neT (a := 0) s1_0 (by decide)
  have z1_1 := lv_neT (a := 1) s1_1 (by decide)
  have z1_2 := lv_neT (a := 2) s1_2 (by decide)
  have z1_3 := lv_neT (a := 3) s1_3 (by decide)
  refine lv_tableOut (tgt := 48) (x := x0) (pc := 1) hx hb dX5_cutTo_1 (by omega) (by decide) ?_
  refine lv_lload_n (pc := 48) hx hb dX5_cutTo_48 rfl (lv_at hl 1 rfl) ?_
  refine lv_lconst (pc := 49) hx hb dX5_cutTo_49 lc_0 ?_
  refine W.lcmp (pc := 50) hx hb dX5_cutTo_50 ?_
  refine lv_if_eq (tgt := 58) (pc := 51) hx hb dX5_cutTo_51 (by decide) (fun c2 => ?_) (fun c2 => ?_)
  · have hf := ifp c2 hf
    refine lv_lconst (pc := 58) hx hb dX5_cutTo_58 lc_0 ?_
    cases hf
    exact x_lret (pc := 59) C S dX5_cutTo_59
  · have hf := ifn c2 hf
    refine lv_lconst (pc := 54) hx hb dX5_cutTo_54 lc_1 ?_
    refine lv_goto (tgt := 59) (pc := 55) hx hb dX5_cutTo_55 (by decide) ?_
    cases hf
    exact x_lret (pc := 59) C S dX5_cutTo_59
end
abbrev rm_X5_setItem : Room := { frames := 1, cells := 0, slots := 0, locals := 22 }
abbrev kw_X5_setItem : Cond := .code yX5_setItem cX5_setItem 6 none
abbrev w_X5_setItem (G : GE) (a_t a_t_sorts a_t_sizes a_t_items : Nat) (t_sorts : Nat → Int32) (t_sizes : Nat → Int32) (t_items : Nat → Int64) : va_W := [(a_t, ob 5 [.ref a_t_sorts, .ref a_t_sizes, .ref a_t_items]), (a_t_sorts, aI G 6 t_sorts), (a_t_sizes, aI G 6 t_sizes), (a_t_items, aJ G 360 t_items)]
theorem u_X5_setItem_X5_hasItem_22 {s : State} {args : Array Value} (hts : ∀ w ∈ WU, w.before args s = true) : CallW rm_X5_setItem s args RX5 RX5 22 yX5_hasItem cX5_hasItem 3 (some .boolean) (kw_X5_hasItem :: WU) rm_X5_hasItem 0 0 2 := cwV 2 hts (gV qm_5_22 qi_X5_hasItem ql_X5_hasItem qn_5 qc_X5_hasItem) rfl rfl rfl (by decide +kernel) ⟨Nat.le_of_ble_eq_true rfl, Nat.le_of_ble_eq_true rfl⟩
theorem u_X5_setItem_X5_sortOf_26 {s : State} {args : Array Value} (hts : ∀ w ∈ WU, w.before args s = true) : CallW rm_X5_setItem s args RX5 RX5 26 yX5_sortOf cX5_sortOf 2 (some .int) (kw_X5_sortOf :: WU) rm_X5_sortOf 0 0 1 := cwV 1 hts (gV qm_5_26 qi_X5_sortOf ql_X5_sortOf qn_5 qc_X5_sortOf) rfl rfl rfl (by decide +kernel) ⟨Nat.le_of_ble_eq_true rfl, Nat.le_of_ble_eq_true rfl⟩
theorem u_X5_setItem_X5_cutTo_30 {s : State} {args : Array Value} (hts : ∀ w ∈ WU, w.before args s = true) : CallB rm_X5_setItem s args RX5 30 yX5_cutTo cX5_cutTo 3 (some .long) (kw_X5_cutTo :: WU) rm_X5_cutTo 0 0 2 ∧ (Cond.static yX5_cutTo).before args s = true := va_cwS 2 hts (gS qm_5_30 qs_X5_cutTo qn_5 qc_X5_cutTo) rfl rfl rfl (by decide +kernel) ⟨Nat.le_of_ble_eq_true rfl, Nat.le_of_ble_eq_true rfl⟩
section
variable {p : Program} {l : Launch} {e : Env} {s : State} {m : MethodId} {args : Array Value} {below : List Frame} {meth : Method} {c : Code} {A : Nat → Prop} {G : GE} {a_t a_t_sorts a_t_sizes a_t_items : Nat} {z_t_items : Nat → Int64}
set_option maxRecDepth 100000 in
set_option maxHeartbeats 4000000 in
theorem c_X5_setItem (l : Launch) (G : GE) (a_t a_t_sorts a_t_sizes a_t_items : Nat) (t_sorts : Nat → Int32) (t_sizes : Nat → Int32) (t_items : Nat → Int64) (x1 : Int32) (x2 : Int32) (x3 : Int64) (z_t_items : Nat → Int64) (hf : f_X5_setItem t_sorts t_sizes t_items x1 x2 x3 = some z_t_items) : CV l G yX5_setItem kw_X5_setItem rm_X5_setItem [.ref a_t, .int x1, .int x2, .long x3] (w_X5_setItem G a_t a_t_sorts a_t_sizes a_t_items t_sorts t_sizes t_items) (w_X5_setItem G a_t a_t_sorts a_t_sizes a_t_items t_sorts t_sizes z_t_items) := by
  refine en_V (cc := cX5_setItem) (maxL := 6) (ret := none) (by decide +kernel) (Nat.le_of_ble_eq_true rfl) ?_
  intro p e s m args below meth c A ls C S hl
  have hl : lv_has ls 6 [(0, .ref a_t), (1, .int x1), (2, .int x2), (3, .long x3)] := hl
  have C : Cx p s m args meth c cX5_setItem none 6 RX5 G A := C
  unfold f_X5_setItem at hf
  have hx := C.1
  have hb := C.2.1
  have hown := C.2.2.2.2.1
  have hts := C.2.2.2.2.2.1
  have hN := C.2.2.2.2.2.2.2.2.2.2
  refine lv_iload_n (pc := 0) hx hb dX5_setItem_0 rfl (lv_at hl 1 rfl) ?_
  refine lv_bipush (pc := 1) hx hb dX5_setItem_1 bc_60 ?_
  refine lv_imul (pc := 3) hx hb dX5_setItem_3 ?_
  refine lv_iload_n (pc := 4) hx hb dX5_setItem_4 rfl (lv_at hl 2 rfl) ?_
  refine lv_iadd (pc := 5) hx hb dX5_setItem_5 ?_
  refine lv_istore (pc := 6) (lv' := [(5, .int ((x1 * (60 : Int32)) + x2)), (0, .ref a_t), (1, .int x1), (2, .int x2), (3, .long x3)]) hx hb dX5_setItem_6 hl (by decide) rfl (fun ls hl => ?_)
  refine lv_aload_n (pc := 8) hx hb dX5_setItem_8 rfl (lv_at hl 1 rfl) ?_
  refine lv_iload_n (pc := 9) hx hb dX5_setItem_9 rfl (lv_at hl 2 rfl) ?_
  refine lv_iload_n (pc := 10) hx hb dX5_setItem_10 rfl (lv_at hl 3 rfl) ?_
  obtain ⟨r1, hq1, hf⟩ := bd_e hf
  refine x_vI (pc := 11) (As := [.int x1, .int x2]) (rest := []) (isC := [0, 2]) (ws' := (w_X5_setItem G a_t a_t_sorts a_t_sizes a_t_items t_sorts t_sizes t_items)) C S (c_X5_hasItem l G a_t a_t_sorts a_t_sizes a_t_items t_sizes x1 x2 r1 hq1) (u_X5_setItem_X5_hasItem_22 hts) (ci := 5) rfl 0 rfl rfl rfl rfl rfl rfl hl.1 rfl (Nat.le_of_ble_eq_true rfl) dX5_setItem_11 (fun H locs S => ?_)
  refine lv_if_eq (tgt := 48) (pc := 14) hx hb dX5_setItem_14 (by decide) (fun c2 => ?_) (fun c2 => ?_)
  · have hf := ifp c2 hf
    cases hf
    exact x_vret (pc := 48) C S dX5_setItem_48
  · have hf := ifn c2 hf
    refine lv_iload (pc := 17) hx hb dX5_setItem_17 (lv_at hl 0 rfl) ?_
    refine lv_if_lt (tgt := 48) (pc := 19) hx hb dX5_setItem_19 (by decide) (fun c3 => ?_) (fun c3 => ?_)
    · have hf := ifp c3 hf
      cases hf
      exact x_vret (pc := 48) C S dX5_setItem_48
    · have hf := ifn c3 hf
      refine lv_iload (pc := 22) hx hb dX5_setItem_22 (lv_at hl 0 rfl) ?_
      refine lv_aload_n (pc := 24) hx hb dX5_setItem_24 rfl (lv_at hl 1 rfl) ?_
      refine x_get (pc := 25) (ci := 5) (T := TX5) (v := .ref a_t_items) C S 0 rfl rfl inlX5 2 (by decide) rfl qf_5_18 rfl dX5_setItem_25 ?_
      refine x_lenJ (pc := 28) C S 3 rfl nc_360 dX5_setItem_28 ?_
      refine lv_icmp_ge (tgt := 48) (pc := 29) hx hb dX5_setItem_29 (by decide) (fun c4 => ?_) (fun c4 => ?_)
      · have hf := ifp c4 hf
        cases hf
        exact x_vret (pc := 48) C S dX5_setItem_48
      · have hf := ifn c4 hf
        refine lv_aload_n (pc := 32) hx hb dX5_setItem_32 rfl (lv_at hl 1 rfl) ?_
        refine x_get (pc := 33) (ci := 5) (T := TX5) (v := .ref a_t_items) C S 0 rfl rfl inlX5 2 (by decide) rfl qf_5_18 rfl dX5_setItem_33 ?_
        refine lv_iload (pc := 36) hx hb dX5_setItem_36 (lv_at hl 0 rfl) ?_
        refine lv_aload_n (pc := 38) hx hb dX5_setItem_38 rfl (lv_at hl 1 rfl) ?_
        refine lv_iload_n (pc := 39) hx hb dX5_setItem_39 rfl (lv_at hl 2 rfl) ?_
        obtain ⟨r5, hq5, hf⟩ := bd_e hf
        refine x_vI (pc := 40) (As := [.int x1]) (rest := [.int ((x1 * (60 : Int32)) + x2), .ref a_t_items]) (isC := [0, 1]) (ws' := (w_X5_setItem G a_t a_t_sorts a_t_sizes a_t_items t_sorts t_sizes t_items)) C S (c_X5_sortOf l G a_t a_t_sorts a_t_sizes a_t_items t_sorts x1 r5 hq5) (u_X5_setItem_X5_sortOf_26 hts) (ci := 5) rfl 0 rfl rfl rfl rfl rfl rfl hl.1 rfl (Nat.le_of_ble_eq_true rfl) dX5_setItem_40 (fun H locs S => ?_)
        refine lv_lload_n (pc := 43) hx hb dX5_setItem_43 rfl (lv_at hl 4 rfl) ?_
        obtain ⟨r6, hq6, hf⟩ := bd_e hf
        refine x_sL (pc := 44) (As := [.int r5, .long x3]) (rest := [.int ((x1 * (60 : Int32)) + x2), .ref a_t_items]) (isC := []) (ws' := (w_X5_setItem G a_t a_t_sorts a_t_sizes a_t_items t_sorts t_sizes t_items)) C S (c_X5_cutTo l G r5 x3 r6 hq6) (u_X5_setItem_X5_cutTo_30 hts) rfl rfl rfl rfl rfl hl.1 rfl (Nat.le_of_ble_eq_true rfl) dX5_setItem_44 (fun H locs S => ?_)
        obtain ⟨hv7, hf⟩ := gI_e hf
        refine x_last (pc := 47) (ws' := (w_X5_setItem G a_t a_t_sorts a_t_sizes a_t_items t_sorts t_sizes (vp_updL t_items ((x1 * (60 : Int32)) + x2).toNatClampNeg r6))) C S 3 rfl hv7 rfl dX5_setItem_47 (fun H locs S => ?_)
        cases hf
        exact x_vret (pc := 48) C S dX5_setItem_48
end
abbrev rm_X6_setFact : Room := { frames := 0, cells := 0, slots := 0, locals := 0 }
abbrev kw_X6_setFact : Cond := .code yX6_setFact cX6_setFact 5 none
abbrev w_X6_setFact (G : GE) (a_t a_t_facts a_t_roundsOf a_t_locked a_t_rules a_t_sizes a_t_rows a_t_seen a_t_plan a_t_book : Nat) (t_stopCount : Int32) (t_metric : Int32) (t_fixed : Int32) (t_facts : Nat → Int32) : va_W := [(a_t, ob 6 [.ref a_t_facts, .ref a_t_roundsOf, .ref a_t_locked, .ref a_t_rules, .ref a_t_sizes, .ref a_t_rows, .ref a_t_seen, .ref a_t_plan, .ref a_t_book, .int t_stopCount, .int t_metric, .int t_fixed]), (a_t_facts, aI G 102 t_facts)]
section
variable {p : Program} {l : Launch} {e : Env} {s : State} {m : MethodId} {args : Array Value} {below : List Frame} {meth : Method} {c : Code} {A : Nat → Prop} {G : GE} {a_t a_t_facts a_t_roundsOf a_t_locked a_t_rules a_t_sizes a_t_rows a_t_seen a_t_plan a_t_book : Nat} {z_t_facts : Nat → Int32}
set_option maxRecDepth 100000 in
set_option maxHeartbeats 4000000 in
theorem c_X6_setFact (l : Launch) (G : GE) (a_t a_t_facts a_t_roundsOf a_t_locked a_t_rules a_t_sizes a_t_rows a_t_seen a_t_plan a_t_book : Nat) (t_stopCount : Int32) (t_metric : Int32) (t_fixed : Int32) (t_facts : Nat → Int32) (x1 : Int32) (x2 : Int32) (x3 : Int32) (z_t_facts : Nat → Int32) (hf : f_X6_setFact t_facts x1 x2 x3 = some z_t_facts) : CV l G yX6_setFact kw_X6_setFact rm_X6_setFact [.ref a_t, .int x1, .int x2, .int x3] (w_X6_setFact G a_t a_t_facts a_t_roundsOf a_t_locked a_t_rules a_t_sizes a_t_rows a_t_seen a_t_plan a_t_book t_stopCount t_metric t_fixed t_facts) (w_X6_setFact G a_t a_t_facts a_t_roundsOf a_t_locked a_t_rules a_t_sizes a_t_rows a_t_seen a_t_plan a_t_book t_stopCount t_metric t_fixed z_t_facts) := by
  refine en_V (cc := cX6_setFact) (maxL := 5) (ret := none) (by decide +kernel) (Nat.le_of_ble_eq_true rfl) ?_
  intro p e s m args below meth c A ls C S hl
  have hl : lv_has ls 5 [(0, .ref a_t), (1, .int x1), (2, .int x2), (3, .int x3)] := hl
  have C : Cx p s m args meth c cX6_setFact none 5 RX6 G A := C
  unfold f_X6_setFact at hf
  have hx := C.1
  have hb := C.2.1
  have hown := C.2.2.2.2.1
  have hts := C.2.2.2.2.2.1
  have hN := C.2.2.2.2.2.2.2.2.2.2
  refine lv_iload_n (pc := 0) hx hb dX6_setFact_0 rfl (lv_at hl 1 rfl) ?_
  refine lv_bipush (pc := 1) hx hb dX6_setFact_1 bc_6 ?_
  refine lv_imul (pc := 3) hx hb dX6_setFact_3 ?_
  refine lv_iload_n (pc := 4) hx hb dX6_setFact_4 rfl (lv_at hl 2 rfl) ?_
  refine lv_iadd (pc := 5) hx hb dX6_setFact_5 ?_
  refine lv_istore (pc := 6) (lv' := [(4, .int ((x1 * (6 : Int32)) + x2)), (0, .ref a_t), (1, .int x1), (2, .int x2), (3, .int x3)]) hx hb dX6_setFact_6 hl (by decide) rfl (fun ls hl => ?_)
  refine lv_iload (pc := 8) hx hb dX6_setFact_8 (lv_at hl 0 rfl) ?_
  refine lv_if_lt (tgt := 31) (pc := 10) hx hb dX6_setFact_10 (by decide) (fun c1 => ?_) (fun c1 => ?_)
  · have hf := ifp c1 hf
    cases hf
    exact x_vret (pc := 31) C S dX6_setFact_31
  · have hf := ifn c1 hf
    refine lv_iload (pc := 13) hx hb dX6_setFact_13 (lv_at hl 0 rfl) ?_
    refine lv_aload_n (pc := 15) hx hb dX6_setFact_15 rfl (lv_at hl 1 rfl) ?_
    refine x_get (pc := 16) (ci := 6) (T := TX6) (v := .ref a_t_facts) C S 0 rfl rfl inlX6 0 (by decide) rfl qf_6_9 rfl dX6_setFact_16 ?_
    refine x_lenI (pc := 19) C S 1 rfl nc_102 dX6_setFact_19 ?_
    refine lv_icmp_ge (tgt := 31) (pc := 20) hx hb dX6_setFact_20 (by decide) (fun c2 => ?_) (fun c2 => ?_)
    · have hf := ifp c2 hf
      cases hf
      exact x_vret (pc := 31) C S dX6_setFact_31
    · have hf := ifn c2 hf
      refine lv_aload_n (pc := 23) hx hb dX6_setFact_23 rfl (lv_at hl 1 rfl) ?_
      refine x_get (pc := 24) (ci := 6) (T := TX6) (v := .ref a_t_facts) C S 0 rfl rfl inlX6 0 (by decide) rfl qf_6_9 rfl dX6_setFact_24 ?_
      refine lv_iload (pc := 27) hx hb dX6_setFact_27 (lv_at hl 0 rfl) ?_
      refine lv_iload_n (pc := 29) hx hb dX6_setFact_29 rfl (lv_at hl 4 rfl) ?_
      obtain ⟨hv3, hf⟩ := gI_e hf
      refine x_iast (pc := 30) (ws' := (w_X6_setFact G a_t a_t_facts a_t_roundsOf a_t_locked a_t_rules a_t_sizes a_t_rows a_t_seen a_t_plan a_t_book t_stopCount t_metric t_fixed (upd t_facts ((x1 * (6 : Int32)) + x2).toNatClampNeg x3))) C S 1 rfl hv3 rfl dX6_setFact_30 (fun H locs S => ?_)
      cases hf
      exact x_vret (pc := 31) C S dX6_setFact_31
end
abbrev rm_X6_addStop : Room := { frames := 1, cells := 0, slots := 0, locals := 24 }
abbrev kw_X6_addStop : Cond := .code yX6_addStop cX6_addStop 8 (some .int)
abbrev w_X6_addStop (G : GE) (a_t a_t_facts a_t_roundsOf a_t_locked a_t_rules a_t_sizes a_t_rows a_t_seen a_t_plan a_t_book : Nat) (t_stopCount : Int32) (t_metric : Int32) (t_fixed : Int32) (t_facts : Nat → Int32) (t_roundsOf : Nat → Int32) (t_locked : Nat → Int32) : va_W := [(a_t, ob 6 [.ref a_t_facts, .ref a_t_roundsOf, .ref a_t_locked, .ref a_t_rules, .ref a_t_sizes, .ref a_t_rows, .ref a_t_seen, .ref a_t_plan, .ref a_t_book, .int t_stopCount, .int t_metric, .int t_fixed]), (a_t_facts, aI G 102 t_facts), (a_t_roundsOf, aI G 16 t_roundsOf), (a_t_locked, aZ G 16 t_locked)]
theorem u_X6_addStop_X6_setFact_70 {s : State} {args : Array Value} (hts : ∀ w ∈ WU, w.before args s = true) : CallW rm_X6_addStop s args RX6 RX6 70 yX6_setFact cX6_setFact 5 none (kw_X6_setFact :: WU) rm_X6_setFact 0 0 3 := cwV 3 hts (gV qm_6_70 qi_X6_setFact ql_X6_setFact qn_6 qc_X6_setFact) rfl rfl rfl (by decide +kernel) ⟨Nat.le_of_ble_eq_true rfl, Nat.le_of_ble_eq_true rfl⟩
section
variable {p : Program} {l : Launch} {e : Env} {s : State} {m : MethodId} {args : Array Value} {below : List Frame} {meth : Method} {c : Code} {A : Nat → Prop} {G : GE} {a_t a_t_facts a_t_roundsOf a_t_locked a_t_rules a_t_sizes a_t_rows a_t_seen a_t_plan a_t_book : Nat} {r : Int32} {z_t_facts : Nat → Int32} {z_t_roundsOf : Nat → Int32} {z_t_locked : Nat → Int32} {z_t_stopCount : Int32}
set_option maxRecDepth 100000 in
set_option maxHeartbeats 4000000 in
theorem c_X6_addStop (l : Launch) (G : GE) (a_t a_t_facts a_t_roundsOf a_t_locked a_t_rules a_t_sizes a_t_rows a_t_seen a_t_plan a_t_book : Nat) (t_stopCount : Int32) (t_metric : Int32) (t_fixed : Int32) (t_facts : Nat → Int32) (t_roundsOf : Nat → Int32) (t_locked : Nat → Int32) (x1 : Int32) (x2 : Int32) (x3 : Int32) (x4 : Int32) (x5 : Int32) (x6 : Int32) (r : Int32) (z_t_facts : Nat → Int32) (z_t_roundsOf : Nat → Int32) (z_t_locked : Nat → Int32) (z_t_stopCount : Int32) (hf : f_X6_addStop t_facts t_roundsOf t_locked t_stopCount x1 x2 x3 x4 x5 x6 = some (r, z_t_facts, z_t_roundsOf, z_t_locked, z_t_stopCount)) : CI l G yX6_addStop kw_X6_addStop rm_X6_addStop [.ref a_t, .int x1, .int x2, .int x3, .int x4, .int x5, .int x6] (w_X6_addStop G a_t a_t_facts a_t_roundsOf a_t_locked a_t_rules a_t_sizes a_t_rows a_t_seen a_t_plan a_t_book t_stopCount t_metric t_fixed t_facts t_roundsOf t_locked) r (w_X6_addStop G a_t a_t_facts a_t_roundsOf a_t_locked a_t_rules a_t_sizes a_t_rows a_t_seen a_t_plan a_t_book z_t_stopCount t_metric t_fixed z_t_facts z_t_roundsOf z_t_locked) := by
  refine en_I (cc := cX6_addStop) (maxL := 8) (ret := (some .int)) (by decide +kernel) (Nat.le_of_ble_eq_true rfl) ?_
  intro p e s m args below meth c A ls C S hl
  have hl : lv_has ls 8 [(0, .ref a_t), (1, .int x1), (2, .int x2), (3, .int x3), (4, .int x4), (5, .int x5), (6, .int x6)] := hl
  have C : Cx p s m args meth c cX6_addStop (some .int) 8 RX6 G A := C
  unfold f_X6_addStop at hf
  have hx := C.1
  have hb := C.2.1
  have hown := C.2.2.2.2.1
  have hts := C.2.2.2.2.2.1
  have hN := C.2.2.2.2.2.2.2.2.2.2
  refine lv_aload_n (pc := 0) hx hb dX6_addStop_0 rfl (lv_at hl 0 rfl) ?_
  refine x_get (pc := 1) (ci := 6) (T := TX6) (v := .int t_stopCount) C S 0 rfl rfl inlX6 9 (by decide) rfl qf_6_60 rfl dX6_addStop_1 ?_
  refine lv_istore (pc := 4) (lv' := [(7, .int t_stopCount), (0, .ref a_t), (1, .int x1), (2, .int x2), (3, .int x3), (4, .int x4), (5, .int x5), (6, .int x6)]) hx hb dX6_addStop_4 hl (by decide) rfl (fun ls hl => ?_)
  refine lv_iload (pc := 6) hx hb dX6_addStop_6 (lv_at hl 0 rfl) ?_
  refine lv_if_lt (tgt := 18) (pc := 8) hx hb dX6_addStop_8 (by decide) (fun c1 => ?_) (fun c1 => ?_)
  · have hf := ifp c1 hf
    refine lv_bipush (pc := 18) hx hb dX6_addStop_18 bc_m4 ?_
    cases hf
    exact x_iret (pc := 20) C S dX6_addStop_20
  · have hf := ifn c1 hf
    refine lv_iload (pc := 11) hx hb dX6_addStop_11 (lv_at hl 0 rfl) ?_
    refine lv_bipush (pc := 13) hx hb dX6_addStop_13 bc_16 ?_
    refine lv_icmp_lt (tgt := 21) (pc := 15) hx hb dX6_addStop_15 (by decide) (fun c2 => ?_) (fun c2 => ?_)
    · have hf := ifp c2 hf
      refine lv_aload_n (pc := 21) hx hb dX6_addStop_21 rfl (lv_at hl 1 rfl) ?_
      refine lv_iload (pc := 22) hx hb dX6_addStop_22 (lv_at hl 0 rfl) ?_
      refine lv_iconst (pc := 24) hx hb dX6_addStop_24 ic_0 ?_
      refine lv_iload_n (pc := 25) hx hb dX6_addStop_25 rfl (lv_at hl 2 rfl) ?_
      obtain ⟨o3_t_facts, hq3, hf⟩ := bd_e hf
      refine x_vV (pc := 26) (As := [.int t_stopCount, .int (0 : Int32), .int x1]) (rest := []) (isC := [0, 1]) (ws' := (w_X6_addStop G a_t a_t_facts a_t_roundsOf a_t_locked a_t_rules a_t_sizes a_t_rows a_t_seen a_t_plan a_t_book t_stopCount t_metric t_fixed o3_t_facts t_roundsOf t_locked)) C S (c_X6_setFact l G a_t a_t_facts a_t_roundsOf a_t_locked a_t_rules a_t_sizes a_t_rows a_t_seen a_t_plan a_t_book t_stopCount t_metric t_fixed t_facts t_stopCount (0 : Int32) x1 o3_t_facts hq3) (u_X6_addStop_X6_setFact_70 hts) (ci := 6) rfl 0 rfl rfl rfl rfl rfl rfl hl.1 rfl (Nat.le_of_ble_eq_true rfl) dX6_addStop_26 (fun H locs S => ?_)
      refine lv_aload_n (pc := 29) hx hb dX6_addStop_29 rfl (lv_at hl 1 rfl) ?_
      refine lv_iload (pc := 30) hx hb dX6_addStop_30 (lv_at hl 0 rfl) ?_
      refine lv_iconst (pc := 32) hx hb dX6_addStop_32 ic_1 ?_
      refine lv_iload_n (pc := 33) hx hb dX6_addStop_33 rfl (lv_at hl 3 rfl) ?_
      obtain ⟨o4_t_facts, hq4, hf⟩ := bd_e hf
      refine x_vV (pc := 34) (As := [.int t_stopCount, .int (1 : Int32), .int x2]) (rest := []) (isC := [0, 1]) (ws' := (w_X6_addStop G a_t a_t_facts a_t_roundsOf a_t_locked a_t_rules a_t_sizes a_t_rows a_t_seen a_t_plan a_t_book t_stopCount t_metric t_fixed o4_t_facts t_roundsOf t_locked)) C S (c_X6_setFact l G a_t a_t_facts a_t_roundsOf a_t_locked a_t_rules a_t_sizes a_t_rows a_t_seen a_t_plan a_t_book t_stopCount t_metric t_fixed o3_t_facts t_stopCount (1 : Int32) x2 o4_t_facts hq4) (u_X6_addStop_X6_setFact_70 hts) (ci := 6) rfl 0 rfl rfl rfl rfl rfl rfl hl.1 rfl (Nat.le_of_ble_eq_true rfl) dX6_addStop_34 (fun H locs S => ?_)
      refine lv_aload_n (pc := 37) hx hb dX6_addStop_37 rfl (lv_at hl 1 rfl) ?_
      refine lv_iload (pc := 38) hx hb dX6_addStop_38 (lv_at hl 0 rfl) ?_
      refine lv_iconst (pc := 40) hx hb dX6_addStop_40 ic_2 ?_
      refine lv_iload_n (pc := 41) hx hb dX6_addStop_41 rfl (lv_at hl 4 rfl) ?_
      obtain ⟨o5_t_facts, hq5, hf⟩ := bd_e hf
      refine x_vV (pc := 42) (As := [.int t_stopCount, .int (2 : Int32), .int x3]) (rest := []) (isC := [0, 1]) (ws' := (w_X6_addStop G a_t a_t_facts a_t_roundsOf a_t_locked a_t_rules a_t_sizes a_t_rows a_t_seen a_t_plan a_t_book t_stopCount t_metric t_fixed o5_t_facts t_roundsOf t_locked)) C S (c_X6_setFact l G a_t a_t_facts a_t_roundsOf a_t_locked a_t_rules a_t_sizes a_t_rows a_t_seen a_t_plan a_t_book t_stopCount t_metric t_fixed o4_t_facts t_stopCount (2 : Int32) x3 o5_t_facts hq5) (u_X6_addStop_X6_setFact_70 hts) (ci := 6) rfl 0 rfl rfl rfl rfl rfl rfl hl.1 rfl (Nat.le_of_ble_eq_true rfl) dX6_addStop_42 (fun H locs S => ?_)
      refine lv_aload_n (pc := 45) hx hb dX6_addStop_45 rfl (lv_at hl 1 rfl) ?_
      refine lv_iload (pc := 46) hx hb dX6_addStop_46 (lv_at hl 0 rfl) ?_
      refine lv_iconst (pc := 48) hx hb dX6_addStop_48 ic_3 ?_
      refine lv_iload (pc := 49) hx hb dX6_addStop_49 (lv_at hl 5 rfl) ?_
      obtain ⟨o6_t_facts, hq6, hf⟩ := bd_e hf
      refine x_vV (pc := 51) (As := [.int t_stopCount, .int (3 : Int32), .int x4]) (rest := []) (isC := [0, 1]) (ws' := (w_X6_addStop G a_t a_t_facts a_t_roundsOf a_t_locked a_t_rules a_t_sizes a_t_rows a_t_seen a_t_plan a_t_book t_stopCount t_metric t_fixed o6_t_facts t_roundsOf t_locked)) C S (c_X6_setFact l G a_t a_t_facts a_t_roundsOf a_t_locked a_t_rules a_t_sizes a_t_rows a_t_seen a_t_plan a_t_book t_stopCount t_metric t_fixed o5_t_facts t_stopCount (3 : Int32) x4 o6_t_facts hq6) (u_X6_addStop_X6_setFact_70 hts) (ci := 6) rfl 0 rfl rfl rfl rfl rfl rfl hl.1 rfl (Nat.le_of_ble_eq_true rfl) dX6_addStop_51 (fun H locs S => ?_)
      refine lv_aload_n (pc := 54) hx hb dX6_addStop_54 rfl (lv_at hl 1 rfl) ?_
      refine lv_iload (pc := 55) hx hb dX6_addStop_55 (lv_at hl 0 rfl) ?_
      refine lv_iconst (pc := 57) hx hb dX6_addStop_57 ic_4 ?_
      refine lv_iload (pc := 58) hx hb dX6_addStop_58 (lv_at hl 6 rfl) ?_
      obtain ⟨o7_t_facts, hq7, hf⟩ := bd_e hf
      refine x_vV (pc := 60) (As := [.int t_stopCount, .int (4 : Int32), .int x5]) (rest := []) (isC := [0, 1]) (ws' := (w_X6_addStop G a_t a_t_facts a_t_roundsOf a_t_locked a_t_rules a_t_sizes a_t_rows a_t_seen a_t_plan a_t_book t_stopCount t_metric t_fixed o7_t_facts t_roundsOf t_locked)) C S (c_X6_setFact l G a_t a_t_facts a_t_roundsOf a_t_locked a_t_rules a_t_sizes a_t_rows a_t_seen a_t_plan a_t_book t_stopCount t_metric t_fixed o6_t_facts t_stopCount (4 : Int32) x5 o7_t_facts hq7) (u_X6_addStop_X6_setFact_70 hts) (ci := 6) rfl 0 rfl rfl rfl rfl rfl rfl hl.1 rfl (Nat.le_of_ble_eq_true rfl) dX6_addStop_60 (fun H locs S => ?_)
      refine lv_aload_n (pc := 63) hx hb dX6_addStop_63 rfl (lv_at hl 1 rfl) ?_
      refine lv_iload (pc := 64) hx hb dX6_addStop_64 (lv_at hl 0 rfl) ?_
      refine lv_iconst (pc := 66) hx hb dX6_addStop_66 ic_5 ?_
      refine lv_iload (pc := 67) hx hb dX6_addStop_67 (lv_at hl 7 rfl) ?_
      obtain ⟨o8_t_facts, hq8, hf⟩ := bd_e hf
      refine x_vV (pc := 69) (As := [.int t_stopCount, .int (5 : Int32), .int x6]) (rest := []) (isC := [0, 1]) (ws' := (w_X6_addStop G a_t a_t_facts a_t_roundsOf a_t_locked a_t_rules a_t_sizes a_t_rows a_t_seen a_t_plan a_t_book t_stopCount t_metric t_fixed o8_t_facts t_roundsOf t_locked)) C S (c_X6_setFact l G a_t a_t_facts a_t_roundsOf a_t_locked a_t_rules a_t_sizes a_t_rows a_t_seen a_t_plan a_t_book t_stopCount t_metric t_fixed o7_t_facts t_stopCount (5 : Int32) x6 o8_t_facts hq8) (u_X6_addStop_X6_setFact_70 hts) (ci := 6) rfl 0 rfl rfl rfl rfl rfl rfl hl.1 rfl (Nat.le_of_ble_eq_true rfl) dX6_addStop_69 (fun H locs S => ?_)
      refine lv_aload_n (pc := 72) hx hb dX6_addStop_72 rfl (lv_at hl 1 rfl) ?_
      refine x_get (pc := 73) (ci := 6) (T := TX6) (v := .ref a_t_roundsOf) C S 0 rfl rfl inlX6 1 (by decide) rfl qf_6_15 rfl dX6_addStop_73 ?_
      refine lv_iload (pc := 76) hx hb dX6_addStop_76 (lv_at hl 0 rfl) ?_
      refine lv_bipush (pc := 78) hx hb dX6_addStop_78 bc_m5 ?_
      obtain ⟨hv9, hf⟩ := gI_e hf
      refine x_iast (pc := 80) (ws' := (w_X6_addStop G a_t a_t_facts a_t_roundsOf a_t_locked a_t_rules a_t_sizes a_t_rows a_t_seen a_t_plan a_t_book t_stopCount t_metric t_fixed o8_t_facts (upd t_roundsOf t_stopCount.toNatClampNeg (-5 : Int32)) t_locked)) C S 2 rfl hv9 rfl dX6_addStop_80 (fun H locs S => ?_)
      refine lv_aload_n (pc := 81) hx hb dX6_addStop_81 rfl (lv_at hl 1 rfl) ?_
      refine x_get (pc := 82) (ci := 6) (T := TX6) (v := .ref a_t_locked) C S 0 rfl rfl inlX6 2 (by decide) rfl qf_6_18 rfl dX6_addStop_82 ?_
      refine lv_iload (pc := 85) hx hb dX6_addStop_85 (lv_at hl 0 rfl) ?_
      refine lv_iconst (pc := 87) hx hb dX6_addStop_87 ic_0 ?_
      refine x_zast (pc := 88) (ws' := (w_X6_addStop G a_t a_t_facts a_t_roundsOf a_t_locked a_t_rules a_t_sizes a_t_rows a_t_seen a_t_plan a_t_book t_stopCount t_metric t_fixed o8_t_facts (upd t_roundsOf t_stopCount.toNatClampNeg (-5 : Int32)) (upd t_locked t_stopCount.toNatClampNeg (vp_nar .boolean (0 : Int32))))) C S 3 rfl hv9 rfl dX6_addStop_88 (fun H locs S => ?_)
      refine lv_aload_n (pc := 89) hx hb dX6_addStop_89 rfl (lv_at hl 1 rfl) ?_
      refine lv_dup (pc := 90) hx hb dX6_addStop_90 rfl ?_
      refine x_get (pc := 91) (ci := 6) (T := TX6) (v := .int t_stopCount) C S 0 rfl rfl inlX6 9 (by decide) rfl qf_6_60 rfl dX6_addStop_91 ?_
      refine lv_iconst (pc := 94) hx hb dX6_addStop_94 ic_1 ?_
      refine lv_iadd (pc := 95) hx hb dX6_addStop_95 ?_
      refine x_put (pc := 96) (ci := 6) (T := TX6) (ws' := (w_X6_addStop G a_t a_t_facts a_t_roundsOf a_t_locked a_t_rules a_t_sizes a_t_rows a_t_seen a_t_plan a_t_book (t_stopCount + (1 : Int32)) t_metric t_fixed o8_t_facts (upd t_roundsOf t_stopCount.toNatClampNeg (-5 : Int32)) (upd t_locked t_stopCount.toNatClampNeg (vp_nar .boolean (0 : Int32))))) C S tyX6 tyX6_ok nmX6 0 rfl rfl inlX6 9 (by decide) rfl qf_6_60 rfl rfl rfl rfl (Nat.le_of_ble_eq_true rfl) rfl dX6_addStop_96 (fun H locs S => ?_)
      refine lv_iload (pc := 99) hx hb dX6_addStop_99 (lv_at hl 0 rfl) ?_
      cases hf
      exact x_iret (pc := 101) C S dX6_addStop_101
    · have hf := ifn c2 hf
      refine lv_bipush (pc := 18) hx hb dX6_addStop_18 bc_m4 ?_
      cases hf
      exact x_iret (pc := 20) C S dX6_addStop_20
end
abbrev rm_X6_copyFrom : Room := { frames := 2, cells := 0, slots := 0, locals := 43 }
abbrev kw_X6_copyFrom : Cond := .code yX6_copyFrom cX6_copyFrom 3 none
abbrev w_X6_copyFrom (G : GE) (a_t a_t_facts a_t_roundsOf a_t_locked a_t_rules a_t_sizes a_t_rows a_t_seen a_t_plan a_t_book a_t_seen_left a_t_seen_right a_t_plan_left a_t_plan_right a_t_book_left a_t_book_right a_p1 a_p1_facts a_p1_roundsOf a_p1_locked a_p1_rules a_p1_sizes a_p1_rows a_p1_seen a_p1_plan a_p1_book a_p1_seen_left a_p1_seen_right a_p1_plan_left a_p1_plan_right a_p1_book_left a_p1_book_right : Nat) (t_stopCount : Int32) (t_metric : Int32) (t_fixed : Int32) (t_facts : Nat → Int32) (t_roundsOf : Nat → Int32) (t_locked : Nat → Int32) (t_rules : Nat → Int32) (t_sizes : Nat → Int32) (t_rows : Nat → Int32) (t_seen_size : Int32) (t_seen_left : Nat → Int32) (t_seen_right : Nat → Int32) (t_plan_size : Int32) (t_plan_left : Nat → Int32) (t_plan_right : Nat → Int32) (t_book_size : Int32) (t_book_left : Nat → Int32) (t_book_right : Nat → Int32) (p1_stopCount : Int32) (p1_metric : Int32) (p1_fixed : Int32) (p1_facts : Nat → Int32) (p1_roundsOf : Nat → Int32) (p1_locked : Nat → Int32) (p1_rules : Nat → Int32) (p1_sizes : Nat → Int32) (p1_rows : Nat → Int32) (p1_seen_size : Int32) (p1_seen_left : Nat → Int32) (p1_seen_right : Nat → Int32) (p1_plan_size : Int32) (p1_plan_left : Nat → Int32) (p1_plan_right : Nat → Int32) (p1_book_size : Int32) (p1_book_left : Nat → Int32) (p1_book_right : Nat → Int32) : va_W := [(a_t, ob 6 [.ref a_t_facts, .ref a_t_roundsOf, .ref a_t_locked, .ref a_t_rules, .ref a_t_sizes, .ref a_t_rows, .ref a_t_seen, .ref a_t_plan, .ref a_t_book, .int t_stopCount, .int t_metric, .int t_fixed]), (a_t_facts, aI G 102 t_facts), (a_t_roundsOf, aI G 16 t_roundsOf), (a_t_locked, aZ G 16 t_locked), (a_t_rules, aI G 12 t_rules), (a_t_sizes, aI G 4 t_sizes), (a_t_rows, aI G 64 t_rows), (a_t_seen, ob 3 [.ref a_t_seen_left, .ref a_t_seen_right, .int t_seen_size]), (a_t_seen_left, aI G 8 t_seen_left), (a_t_seen_right, aI G 8 t_seen_right), (a_t_plan, ob 3 [.ref a_t_plan_left, .ref a_t_plan_right, .int t_plan_size]), (a_t_plan_left, aI G 8 t_plan_left), (a_t_plan_right, aI G 8 t_plan_right), (a_t_book, ob 3 [.ref a_t_book_left, .ref a_t_book_right, .int t_book_size]), (a_t_book_left, aI G 8 t_book_left), (a_t_book_right, aI G 8 t_book_right), (a_p1, ob 6 [.ref a_p1_facts, .ref a_p1_roundsOf, .ref a_p1_locked, .ref a_p1_rules, .ref a_p1_sizes, .ref a_p1_rows, .ref a_p1_seen, .ref a_p1_plan, .ref a_p1_book, .int p1_stopCount, .int p1_metric, .int p1_fixed]), (a_p1_facts, aI G 102 p1_facts), (a_p1_roundsOf, aI G 16 p1_roundsOf), (a_p1_locked, aZ G 16 p1_locked), (a_p1_rules, aI G 12 p1_rules), (a_p1_sizes, aI G 4 p1_sizes), (a_p1_rows, aI G 64 p1_rows), (a_p1_seen, ob 3 [.ref a_p1_seen_left, .ref a_p1_seen_right, .int p1_seen_size]), (a_p1_seen_left, aI G 8 p1_seen_left), (a_p1_seen_right, aI G 8 p1_seen_right), (a_p1_plan, ob 3 [.ref a_p1_plan_left, .ref a_p1_plan_right, .int p1_plan_size]), (a_p1_plan_left, aI G 8 p1_plan_left), (a_p1_plan_right, aI G 8 p1_plan_right), (a_p1_book, ob 3 [.ref a_p1_book_left, .ref a_p1_book_right, .int p1_book_size]), (a_p1_book_left, aI G 8 p1_book_left), (a_p1_book_right, aI G 8 p1_book_right)]
theorem u_X6_copyFrom_X7_copyRow_52 {s : State} {args : Array Value} (hts : ∀ w ∈ WU, w.before args s = true) (hN : Nx s) : va_CN rm_X6_copyFrom s args RX6 52 yX7_copyRow RX7 cX7_copyRow 3 none (kw_X7_copyRow :: WU) rm_X7_copyRow 0 0 2 ∧ (Cond.static yX7_copyRow).before args s = true ∧ True := ⟨va_cnB 2 hts (gW qc_X7_copyRow) rfl rfl rfl (hN.1 _ (by decide +kernel : (RX6, 52, yX7_copyRow) ∈ nstM)) (hts _ qn_7) (by decide +kernel) ⟨Nat.le_of_ble_eq_true rfl, Nat.le_of_ble_eq_true rfl⟩, hts _ qs_X7_copyRow, trivial⟩
theorem u_X6_copyFrom_X3_copyFrom_56 {s : State} {args : Array Value} (hts : ∀ w ∈ WU, w.before args s = true) : CallW rm_X6_copyFrom s args RX6 RX3 56 yX3_copyFrom cX3_copyFrom 2 none (kw_X3_copyFrom :: WU) rm_X3_copyFrom 0 0 1 := cwV 1 hts (gV qm_6_56 qi_X3_copyFrom ql_X3_copyFrom qn_3 qc_X3_copyFrom) rfl rfl rfl (by decide +kernel) ⟨Nat.le_of_ble_eq_true rfl, Nat.le_of_ble_eq_true rfl⟩
section
variable {p : Program} {l : Launch} {e : Env} {s : State} {m : MethodId} {args : Array Value} {below : List Frame} {meth : Method} {c : Code} {A : Nat → Prop} {G : GE} {a_t a_t_facts a_t_roundsOf a_t_locked a_t_rules a_t_sizes a_t_rows a_t_seen a_t_plan a_t_book a_t_seen_left a_t_seen_right a_t_plan_left a_t_plan_right a_t_book_left a_t_book_right a_p1 a_p1_facts a_p1_roundsOf a_p1_locked a_p1_rules a_p1_sizes a_p1_rows a_p1_seen a_p1_plan a_p1_book a_p1_seen_left a_p1_seen_right a_p1_plan_left a_p1_plan_right a_p1_book_left a_p1_book_right : Nat} {z_t_facts : Nat → Int32} {z_t_roundsOf : Nat → Int32} {z_t_locked : Nat → Int32} {z_t_rules : Nat → Int32} {z_t_sizes : Nat → Int32} {z_t_rows : Nat → Int32} {z_t_seen_left : Nat → Int32} {z_t_seen_right : Nat → Int32} {z_t_seen_size : Int32} {z_t_plan_left : Nat → Int32} {z_t_plan_right : Nat → Int32} {z_t_plan_size : Int32} {z_t_book_left : Nat → Int32} {z_t_book_right : Nat → Int32} {z_t_book_size : Int32} {z_t_stopCount : Int32} {z_t_metric : Int32} {z_t_fixed : Int32}
set_option maxRecDepth 100000 in
set_option maxHeartbeats 4000000 in
theorem k_X6_copyFrom_57 (C : Cx p s m args meth c cX6_copyFrom none 3 RX6 G A) (t_stopCount : Int32) (t_metric : Int32) (t_fixed : Int32) (t_facts : Nat → Int32) (t_roundsOf : Nat → Int32) (t_locked : Nat → Int32) (t_rules : Nat → Int32) (t_sizes : Nat → Int32) (t_rows : Nat → Int32) (t_seen_size : Int32) (t_seen_left : Nat → Int32) (t_seen_right : Nat → Int32) (t_plan_size : Int32) (t_plan_left : Nat → Int32) (t_plan_right : Nat → Int32) (t_book_size : Int32) (t_book_left : Nat → Int32) (t_book_right : Nat → Int32) (p1_stopCount : Int32) (p1_metric : Int32) (p1_fixed : Int32) (p1_facts : Nat → Int32) (p1_roundsOf : Nat → Int32) (p1_locked : Nat → Int32) (p1_rules : Nat → Int32) (p1_sizes : Nat → Int32) (p1_rows : Nat → Int32) (p1_seen_size : Int32) (p1_seen_left : Nat → Int32) (p1_seen_right : Nat → Int32) (p1_plan_size : Int32) (p1_plan_left : Nat → Int32) (p1_plan_right : Nat → Int32) (p1_book_size : Int32) (p1_book_left : Nat → Int32) (p1_book_right : Nat → Int32) (x2 : Int32) (k57 : Int32 × (Nat → Int32) → Option ((Nat → Int32) × (Nat → Int32) × (Nat → Int32) × (Nat → Int32) × (Nat → Int32) × (Nat → Int32) × (Nat → Int32) × (Nat → Int32) × Int32 × (Nat → Int32) × (Nat → Int32) × Int32 × (Nat → Int32) × (Nat → Int32) × Int32 × Int32 × Int32 × Int32)) (hk57 : ∀ {H : Heap} {locs : List Loc} {ls : Array Slot} (x2' : Int32) (t_locked' : Nat → Int32), k57 (x2', t_locked') = some (z_t_facts, z_t_roundsOf, z_t_locked, z_t_rules, z_t_sizes, z_t_rows, z_t_seen_left, z_t_seen_right, z_t_seen_size, z_t_plan_left, z_t_plan_right, z_t_plan_size, z_t_book_left, z_t_book_right, z_t_book_size, z_t_stopCount, z_t_metric, z_t_fixed) → St G A s.heap H locs (w_X6_copyFrom G a_t a_t_facts a_t_roundsOf a_t_locked a_t_rules a_t_sizes a_t_rows a_t_seen a_t_plan a_t_book a_t_seen_left a_t_seen_right a_t_plan_left a_t_plan_right a_t_book_left a_t_book_right a_p1 a_p1_facts a_p1_roundsOf a_p1_locked a_p1_rules a_p1_sizes a_p1_rows a_p1_seen a_p1_plan a_p1_book a_p1_seen_left a_p1_seen_right a_p1_plan_left a_p1_plan_right a_p1_book_left a_p1_book_right t_stopCount t_metric t_fixed t_facts t_roundsOf t_locked' t_rules t_sizes t_rows t_seen_size t_seen_left t_seen_right t_plan_size t_plan_left t_plan_right t_book_size t_book_left t_book_right p1_stopCount p1_metric p1_fixed p1_facts p1_roundsOf p1_locked p1_rules p1_sizes p1_rows p1_seen_size p1_seen_left p1_seen_right p1_plan_size p1_plan_left p1_plan_right p1_book_size p1_book_left p1_book_right) → lv_has ls 3 [(0, .ref a_t), (1, .ref a_p1), (2, .int x2')] → W p l e rm_X6_copyFrom s m args below meth c H locs 0 0 (QV G below args s A (w_X6_copyFrom G a_t a_t_facts a_t_roundsOf a_t_locked a_t_rules a_t_sizes a_t_rows a_t_seen a_t_plan a_t_book a_t_seen_left a_t_seen_right a_t_plan_left a_t_plan_right a_t_book_left a_t_book_right a_p1 a_p1_facts a_p1_roundsOf a_p1_locked a_p1_rules a_p1_sizes a_p1_rows a_p1_seen a_p1_plan a_p1_book a_p1_seen_left a_p1_seen_right a_p1_plan_left a_p1_plan_right a_p1_book_left a_p1_book_right z_t_stopCount z_t_metric z_t_fixed z_t_facts z_t_roundsOf z_t_locked z_t_rules z_t_sizes z_t_rows z_t_seen_size z_t_seen_left z_t_seen_right z_t_plan_size z_t_plan_left z_t_plan_right z_t_book_size z_t_book_left z_t_book_right p1_stopCount p1_metric p1_fixed p1_facts p1_roundsOf p1_locked p1_rules p1_sizes p1_rows p1_seen_size p1_seen_left p1_seen_right p1_plan_size p1_plan_left p1_plan_right p1_book_size p1_book_left p1_book_right)) (F0 m 57 ls [])) {H : Heap} {locs : List Loc} {ls : Array Slot} (hf : b_X6_copyFrom_57 t_facts t_roundsOf t_rules t_sizes t_rows t_seen_left t_seen_right t_plan_left t_plan_right t_book_left t_book_right p1_locked p1_seen_left p1_seen_right p1_seen_size p1_plan_left p1_plan_right p1_plan_size p1_book_left p1_book_right p1_book_size p1_stopCount p1_metric p1_fixed k57 x2 t_locked = some (z_t_facts, z_t_roundsOf, z_t_locked, z_t_rules, z_t_sizes, z_t_rows, z_t_seen_left, z_t_seen_right, z_t_seen_size, z_t_plan_left, z_t_plan_right, z_t_plan_size, z_t_book_left, z_t_book_right, z_t_book_size, z_t_stopCount, z_t_metric, z_t_fixed)) (S : St G A s.heap H locs (w_X6_copyFrom G a_t a_t_facts a_t_roundsOf a_t_locked a_t_rules a_t_sizes a_t_rows a_t_seen a_t_plan a_t_book a_t_seen_left a_t_seen_right a_t_plan_left a_t_plan_right a_t_book_left a_t_book_right a_p1 a_p1_facts a_p1_roundsOf a_p1_locked a_p1_rules a_p1_sizes a_p1_rows a_p1_seen a_p1_plan a_p1_book a_p1_seen_left a_p1_seen_right a_p1_plan_left a_p1_plan_right a_p1_book_left a_p1_book_right t_stopCount t_metric t_fixed t_facts t_roundsOf t_locked t_rules t_sizes t_rows t_seen_size t_seen_left t_seen_right t_plan_size t_plan_left t_plan_right t_book_size t_book_left t_book_right p1_stopCount p1_metric p1_fixed p1_facts p1_roundsOf p1_locked p1_rules p1_sizes p1_rows p1_seen_size p1_seen_left p1_seen_right p1_plan_size p1_plan_left p1_plan_right p1_book_size p1_book_left p1_book_right)) (hl : lv_has ls 3 [(0, .ref a_t), (1, .ref a_p1), (2, .int x2)]) : W p l e rm_X6_copyFrom s m args below meth c H locs 0 0 (QV G below args s A (w_X6_copyFrom G a_t a_t_facts a_t_roundsOf a_t_locked a_t_rules a_t_sizes a_t_rows a_t_seen a_t_plan a_t_book a_t_seen_left a_t_seen_right a_t_plan_left a_t_plan_right a_t_book_left a_t_book_right a_p1 a_p1_facts a_p1_roundsOf a_p1_locked a_p1_rules a_p1_sizes a_p1_rows a_p1_seen a_p1_plan a_p1_book a_p1_seen_left a_p1_seen_right a_p1_plan_left a_p1_plan_right a_p1_book_left a_p1_book_right z_t_stopCount z_t_metric z_t_fixed z_t_facts z_t_roundsOf z_t_locked z_t_rules z_t_sizes z_t_rows z_t_seen_size z_t_seen_left z_t_seen_right z_t_plan_size z_t_plan_left z_t_plan_right z_t_book_size z_t_book_left z_t_book_right p1_stopCount p1_metric p1_fixed p1_facts p1_roundsOf p1_locked p1_rules p1_sizes p1_rows p1_seen_size p1_seen_left p1_seen_right p1_plan_size p1_plan_left p1_plan_right p1_book_size p1_book_left p1_book_right)) (F0 m 57 ls []) := by
  unfold b_X6_copyFrom_57 at hf
  have hx := C.1
  have hb := C.2.1
  have hown := C.2.2.2.2.1
  have hts := C.2.2.2.2.2.1
  have hN := C.2.2.2.2.2.2.2.2.2.2
  refine lv_iload_n (pc := 57) hx hb dX6_copyFrom_57 rfl (lv_at hl 2 rfl) ?_
  refine lv_bipush (pc := 58) hx hb dX6_copyFrom_58 bc_16 ?_
  refine lv_icmp_ge (tgt := 81) (pc := 60) hx hb dX6_copyFrom_60 (by decide) (fun c1 => ?_) (fun c1 => ?_)
  · have hf := ifp c1 hf
    refine lv_aload_n (pc := 81) hx hb dX6_copyFrom_81 rfl (lv_at hl 0 rfl) ?_
    refine x_get (pc := 82) (ci := 6) (T := TX6) (v := .ref a_t_seen) C S 0 rfl rfl inlX6 6 (by decide) rfl qf_6_34 rfl dX6_copyFrom_82 ?_
    refine lv_aload_n (pc := 85) hx hb dX6_copyFrom_85 rfl (lv_at hl 1 rfl) ?_
    refine x_get (pc := 86) (ci := 6) (T := TX6) (v := .ref a_p1_seen) C S 16 rfl rfl inlX6 6 (by decide) rfl qf_6_34 rfl dX6_copyFrom_86 ?_
    obtain ⟨⟨o2_t_seen_left, o2_t_seen_right, o2_t_seen_size⟩, hq2, hf⟩ := bd_e hf
    refine x_vV (pc := 89) (As := [.ref a_p1_seen]) (rest := []) (isC := [7, 8, 9, 23, 24, 25]) (ws' := (w_X6_copyFrom G a_t a_t_facts a_t_roundsOf a_t_locked a_t_rules a_t_sizes a_t_rows a_t_seen a_t_plan a_t_book a_t_seen_left a_t_seen_right a_t_plan_left a_t_plan_right a_t_book_left a_t_book_right a_p1 a_p1_facts a_p1_roundsOf a_p1_locked a_p1_rules a_p1_sizes a_p1_rows a_p1_seen a_p1_plan a_p1_book a_p1_seen_left a_p1_seen_right a_p1_plan_left a_p1_plan_right a_p1_book_left a_p1_book_right t_stopCount t_metric t_fixed t_facts t_roundsOf t_locked t_rules t_sizes t_rows o2_t_seen_size o2_t_seen_left o2_t_seen_right t_plan_size t_plan_left t_plan_right t_book_size t_book_left t_book_right p1_stopCount p1_metric p1_fixed p1_facts p1_roundsOf p1_locked p1_rules p1_sizes p1_rows p1_seen_size p1_seen_left p1_seen_right p1_plan_size p1_plan_left p1_plan_right p1_book_size p1_book_left p1_book_right)) C S (c_X3_copyFrom l G a_t_seen a_t_seen_left a_t_seen_right a_p1_seen a_p1_seen_left a_p1_seen_right t_seen_size t_seen_left t_seen_right p1_seen_size p1_seen_left p1_seen_right o2_t_seen_left o2_t_seen_right o2_t_seen_size hq2) (u_X6_copyFrom_X3_copyFrom_56 hts) (ci := 3) rfl 7 rfl rfl rfl rfl rfl rfl hl.1 rfl (Nat.le_of_ble_eq_true rfl) dX6_copyFrom_89 (fun H locs S => ?_)
    refine lv_aload_n (pc := 92) hx hb dX6_copyFrom_92 rfl (lv_at hl 0 rfl) ?_
    refine x_get (pc := 93) (ci := 6) (T := TX6) (v := .ref a_t_plan) C S 0 rfl rfl inlX6 7 (by decide) rfl qf_6_38 rfl dX6_copyFrom_93 ?_
    refine lv_aload_n (pc := 96) hx hb dX6_copyFrom_96 rfl (lv_at hl 1 rfl) ?_
    refine x_get (pc := 97) (ci := 6) (T := TX6) (v := .ref a_p1_plan) C S 16 rfl rfl inlX6 7 (by decide) rfl qf_6_38 rfl dX6_copyFrom_97 ?_
    obtain ⟨⟨o3_t_plan_left, o3_t_plan_right, o3_t_plan_size⟩, hq3, hf⟩ := bd_e hf
    refine x_vV (pc := 100) (As := [.ref a_p1_plan]) (rest := []) (isC := [10, 11, 12, 26, 27, 28]) (ws' := (w_X6_copyFrom G a_t a_t_facts a_t_roundsOf a_t_locked a_t_rules a_t_sizes a_t_rows a_t_seen a_t_plan a_t_book a_t_seen_left a_t_seen_right a_t_plan_left a_t_plan_right a_t_book_left a_t_book_right a_p1 a_p1_facts a_p1_roundsOf a_p1_locked a_p1_rules a_p1_sizes a_p1_rows a_p1_seen a_p1_plan a_p1_book a_p1_seen_left a_p1_seen_right a_p1_plan_left a_p1_plan_right a_p1_book_left a_p1_book_right t_stopCount t_metric t_fixed t_facts t_roundsOf t_locked t_rules t_sizes t_rows o2_t_seen_size o2_t_seen_left o2_t_seen_right o3_t_plan_size o3_t_plan_left o3_t_plan_right t_book_size t_book_left t_book_right p1_stopCount p1_metric p1_fixed p1_facts p1_roundsOf p1_locked p1_rules p1_sizes p1_rows p1_seen_size p1_seen_left p1_seen_right p1_plan_size p1_plan_left p1_plan_right p1_book_size p1_book_left p1_book_right)) C S (c_X3_copyFrom l G a_t_plan a_t_plan_left a_t_plan_right a_p1_plan a_p1_plan_left a_p1_plan_right t_plan_size t_plan_left t_plan_right p1_plan_size p1_plan_left p1_plan_right o3_t_plan_left o3_t_plan_right o3_t_plan_size hq3) (u_X6_copyFrom_X3_copyFrom_56 hts) (ci := 3) rfl 10 rfl rfl rfl rfl rfl rfl hl.1 rfl (Nat.le_of_ble_eq_true rfl) dX6_copyFrom_100 (fun H locs S => ?_)
    refine lv_aload_n (pc := 103) hx hb dX6_copyFrom_103 rfl (lv_at hl 0 rfl) ?_
    refine x_get (pc := 104) (ci := 6) (T := TX6) (v := .ref a_t_book) C S 0 rfl rfl inlX6 8 (by decide) rfl qf_6_41 rfl dX6_copyFrom_104 ?_
    refine lv_aload_n (pc := 107) hx hb dX6_copyFrom_107 rfl (lv_at hl 1 rfl) ?_
    refine x_get (pc := 108) (ci := 6) (T := TX6) (v := .ref a_p1_book) C S 16 rfl rfl inlX6 8 (by decide) rfl qf_6_41 rfl dX6_copyFrom_108 ?_
    obtain ⟨⟨o4_t_book_left, o4_t_book_right, o4_t_book_size⟩, hq4, hf⟩ := bd_e hf
    refine x_vV (pc := 111) (As := [.ref a_p1_book]) (rest := []) (isC := [13, 14, 15, 29, 30, 31]) (ws' := (w_X6_copyFrom G a_t a_t_facts a_t_roundsOf a_t_locked a_t_rules a_t_sizes a_t_rows a_t_seen a_t_plan a_t_book a_t_seen_left a_t_seen_right a_t_plan_left a_t_plan_right a_t_book_left a_t_book_right a_p1 a_p1_facts a_p1_roundsOf a_p1_locked a_p1_rules a_p1_sizes a_p1_rows a_p1_seen a_p1_plan a_p1_book a_p1_seen_left a_p1_seen_right a_p1_plan_left a_p1_plan_right a_p1_book_left a_p1_book_right t_stopCount t_metric t_fixed t_facts t_roundsOf t_locked t_rules t_sizes t_rows o2_t_seen_size o2_t_seen_left o2_t_seen_right o3_t_plan_size o3_t_plan_left o3_t_plan_right o4_t_book_size o4_t_book_left o4_t_book_right p1_stopCount p1_metric p1_fixed p1_facts p1_roundsOf p1_locked p1_rules p1_sizes p1_rows p1_seen_size p1_seen_left p1_seen_right p1_plan_size p1_plan_left p1_plan_right p1_book_size p1_book_left p1_book_right)) C S (c_X3_copyFrom l G a_t_book a_t_book_left a_t_book_right a_p1_book a_p1_book_left a_p1_book_right t_book_size t_book_left t_book_right p1_book_size p1_book_left p1_book_right o4_t_book_left o4_t_book_right o4_t_book_size hq4) (u_X6_copyFrom_X3_copyFrom_56 hts) (ci := 3) rfl 13 rfl rfl rfl rfl rfl rfl hl.1 rfl (Nat.le_of_ble_eq_true rfl) dX6_copyFrom_111 (fun H locs S => ?_)
    refine lv_aload_n (pc := 114) hx hb dX6_copyFrom_114 rfl (lv_at hl 0 rfl) ?_
    refine lv_aload_n (pc := 115) hx hb dX6_copyFrom_115 rfl (lv_at hl 1 rfl) ?_
    refine x_get (pc := 116) (ci := 6) (T := TX6) (v := .int p1_stopCount) C S 16 rfl rfl inlX6 9 (by decide) rfl qf_6_60 rfl dX6_copyFrom_116 ?_
    refine x_put (pc := 119) (ci := 6) (T := TX6) (ws' := (w_X6_copyFrom G a_t a_t_facts a_t_roundsOf a_t_locked a_t_rules a_t_sizes a_t_rows a_t_seen a_t_plan a_t_book a_t_seen_left a_t_seen_right a_t_plan_left a_t_plan_right a_t_book_left a_t_book_right a_p1 a_p1_facts a_p1_roundsOf a_p1_locked a_p1_rules a_p1_sizes a_p1_rows a_p1_seen a_p1_plan a_p1_book a_p1_seen_left a_p1_seen_right a_p1_plan_left a_p1_plan_right a_p1_book_left a_p1_book_right p1_stopCount t_metric t_fixed t_facts t_roundsOf t_locked t_rules t_sizes t_rows o2_t_seen_size o2_t_seen_left o2_t_seen_right o3_t_plan_size o3_t_plan_left o3_t_plan_right o4_t_book_size o4_t_book_left o4_t_book_right p1_stopCount p1_metric p1_fixed p1_facts p1_roundsOf p1_locked p1_rules p1_sizes p1_rows p1_seen_size p1_seen_left p1_seen_right p1_plan_size p1_plan_left p1_plan_right p1_book_size p1_book_left p1_book_right)) C S tyX6 tyX6_ok nmX6 0 rfl rfl inlX6 9 (by decide) rfl qf_6_60 rfl rfl rfl rfl (Nat.le_of_ble_eq_true rfl) rfl dX6_copyFrom_119 (fun H locs S => ?_)
    refine lv_aload_n (pc := 122) hx hb dX6_copyFrom_122 rfl (lv_at hl 0 rfl) ?_
    refine lv_aload_n (pc := 123) hx hb dX6_copyFrom_123 rfl (lv_at hl 1 rfl) ?_
    refine x_get (pc := 124) (ci := 6) (T := TX6) (v := .int p1_metric) C S 16 rfl rfl inlX6 10 (by decide) rfl qf_6_64 rfl dX6_copyFrom_124 ?_
    refine x_put (pc := 127) (ci := 6) (T := TX6) (ws' := (w_X6_copyFrom G a_t a_t_facts a_t_roundsOf a_t_locked a_t_rules a_t_sizes a_t_rows a_t_seen a_t_plan a_t_book a_t_seen_left a_t_seen_right a_t_plan_left a_t_plan_right a_t_book_left a_t_book_right a_p1 a_p1_facts a_p1_roundsOf a_p1_locked a_p1_rules a_p1_sizes a_p1_rows a_p1_seen a_p1_plan a_p1_book a_p1_seen_left a_p1_seen_right a_p1_plan_left a_p1_plan_right a_p1_book_left a_p1_book_right p1_stopCount p1_metric t_fixed t_facts t_roundsOf t_locked t_rules t_sizes t_rows o2_t_seen_size o2_t_seen_left o2_t_seen_right o3_t_plan_size o3_t_plan_left o3_t_plan_right o4_t_book_size o4_t_book_left o4_t_book_right p1_stopCount p1_metric p1_fixed p1_facts p1_roundsOf p1_locked p1_rules p1_sizes p1_rows p1_seen_size p1_seen_left p1_seen_right p1_plan_size p1_plan_left p1_plan_right p1_book_size p1_book_left p1_book_right)) C S tyX6 tyX6_ok nmX6 0 rfl rfl inlX6 10 (by decide) rfl qf_6_64 rfl rfl rfl rfl (Nat.le_of_ble_eq_true rfl) rfl dX6_copyFrom_127 (fun H locs S => ?_)
    refine lv_aload_n (pc := 130) hx hb dX6_copyFrom_130 rfl (lv_at hl 0 rfl) ?_
    refine lv_aload_n (pc := 131) hx hb dX6_copyFrom_131 rfl (lv_at hl 1 rfl) ?_
    refine x_get (pc := 132) (ci := 6) (T := TX6) (v := .int p1_fixed) C S 16 rfl rfl inlX6 11 (by decide) rfl qf_6_67 rfl dX6_copyFrom_132 ?_
    refine x_put (pc := 135) (ci := 6) (T := TX6) (ws' := (w_X6_copyFrom G a_t a_t_facts a_t_roundsOf a_t_locked a_t_rules a_t_sizes a_t_rows a_t_seen a_t_plan a_t_book a_t_seen_left a_t_seen_right a_t_plan_left a_t_plan_right a_t_book_left a_t_book_right a_p1 a_p1_facts a_p1_roundsOf a_p1_locked a_p1_rules a_p1_sizes a_p1_rows a_p1_seen a_p1_plan a_p1_book a_p1_seen_left a_p1_seen_right a_p1_plan_left a_p1_plan_right a_p1_book_left a_p1_book_right p1_stopCount p1_metric p1_fixed t_facts t_roundsOf t_locked t_rules t_sizes t_rows o2_t_seen_size o2_t_seen_left o2_t_seen_right o3_t_plan_size o3_t_plan_left o3_t_plan_right o4_t_book_size o4_t_book_left o4_t_book_right p1_stopCount p1_metric p1_fixed p1_facts p1_roundsOf p1_locked p1_rules p1_sizes p1_rows p1_seen_size p1_seen_left p1_seen_right p1_plan_size p1_plan_left p1_plan_right p1_book_size p1_book_left p1_book_right)) C S tyX6 tyX6_ok nmX6 0 rfl rfl inlX6 11 (by decide) rfl qf_6_67 rfl rfl rfl rfl (Nat.le_of_ble_eq_true rfl) rfl dX6_copyFrom_135 (fun H locs S => ?_)
    cases hf
    exact x_vret (pc := 138) C S dX6_copyFrom_138
  · have hf := ifn c1 hf
    refine lv_aload_n (pc := 63) hx hb dX6_copyFrom_63 rfl (lv_at hl 0 rfl) ?_
    refine x_get (pc := 64) (ci := 6) (T := TX6) (v := .ref a_t_locked) C S 0 rfl rfl inlX6 2 (by decide) rfl qf_6_18 rfl dX6_copyFrom_64 ?_
    refine lv_iload_n (pc := 67) hx hb dX6_copyFrom_67 rfl (lv_at hl 2 rfl) ?_
    refine lv_aload_n (pc := 68) hx hb dX6_copyFrom_68 rfl (lv_at hl 1 rfl) ?_
    refine x_get (pc := 69) (ci := 6) (T := TX6) (v := .ref a_p1_locked) C S 16 rfl rfl inlX6 2 (by decide) rfl qf_6_18 rfl dX6_copyFrom_69 ?_
    refine lv_iload_n (pc := 72) hx hb dX6_copyFrom_72 rfl (lv_at hl 2 rfl) ?_
    obtain ⟨hv5, hf⟩ := gI_e hf
    refine x_zald (pc := 73) C S 19 rfl hv5 dX6_copyFrom_73 ?_
    refine x_zast (pc := 74) (ws' := (w_X6_copyFrom G a_t a_t_facts a_t_roundsOf a_t_locked a_t_rules a_t_sizes a_t_rows a_t_seen a_t_plan a_t_book a_t_seen_left a_t_seen_right a_t_plan_left a_t_plan_right a_t_book_left a_t_book_right a_p1 a_p1_facts a_p1_roundsOf a_p1_locked a_p1_rules a_p1_sizes a_p1_rows a_p1_seen a_p1_plan a_p1_book a_p1_seen_left a_p1_seen_right a_p1_plan_left a_p1_plan_right a_p1_book_left a_p1_book_right t_stopCount t_metric t_fixed t_facts t_roundsOf (upd t_locked x2.toNatClampNeg (vp_nar .boolean (p1_locked x2.toNatClampNeg))) t_rules t_sizes t_rows t_seen_size t_seen_left t_seen_right t_plan_size t_plan_left t_plan_right t_book_size t_book_left t_book_right p1_stopCount p1_metric p1_fixed p1_facts p1_roundsOf p1_locked p1_rules p1_sizes p1_rows p1_seen_size p1_seen_left p1_seen_right p1_plan_size p1_plan_left p1_plan_right p1_book_size p1_book_left p1_book_right)) C S 3 rfl hv5 rfl dX6_copyFrom_74 (fun H locs S => ?_)
    refine lv_iinc (pc := 75) (v := (x2 + (1 : Int32))) (lv' := [(2, .int (x2 + (1 : Int32))), (0, .ref a_t), (1, .ref a_p1)]) hx hb dX6_copyFrom_75 hl (k := 2) rfl (congrArg (fun z => x2 + z) ic_1) (by decide) rfl (fun ls hl => ?_)
    refine lv_goto (tgt := 57) (pc := 78) hx hb dX6_copyFrom_78 (by decide) ?_
    exact hk57 ((x2 + (1 : Int32))) ((upd t_locked x2.toNatClampNeg (vp_nar .boolean (p1_locked x2.toNatClampNeg))))  hf S (lv_sub hl [1, 2, 0] rfl)
set_option maxRecDepth 100000 in
set_option maxHeartbeats 4000000 in
theorem h_X6_copyFrom_57 (C : Cx p s m args meth c cX6_copyFrom none 3 RX6 G A) (t_stopCount : Int32) (t_metric : Int32) (t_fixed : Int32) (t_facts : Nat → Int32) (t_roundsOf : Nat → Int32) (t_rules : Nat → Int32) (t_sizes : Nat → Int32) (t_rows : Nat → Int32) (t_seen_size : Int32) (t_seen_left : Nat → Int32) (t_seen_right : Nat → Int32) (t_plan_size : Int32) (t_plan_left : Nat → Int32) (t_plan_right : Nat → Int32) (t_book_size : Int32) (t_book_left : Nat → Int32) (t_book_right : Nat → Int32) (p1_stopCount : Int32) (p1_metric : Int32) (p1_fixed : Int32) (p1_facts : Nat → Int32) (p1_roundsOf : Nat → Int32) (p1_locked : Nat → Int32) (p1_rules : Nat → Int32) (p1_sizes : Nat → Int32) (p1_rows : Nat → Int32) (p1_seen_size : Int32) (p1_seen_left : Nat → Int32) (p1_seen_right : Nat → Int32) (p1_plan_size : Int32) (p1_plan_left : Nat → Int32) (p1_plan_right : Nat → Int32) (p1_book_size : Int32) (p1_book_left : Nat → Int32) (p1_book_right : Nat → Int32) (n : Nat) (x : Int32 × (Nat → Int32)) (hf : lp (fun k x => b_X6_copyFrom_57 t_facts t_roundsOf t_rules t_sizes t_rows t_seen_left t_seen_right t_plan_left t_plan_right t_book_left t_book_right p1_locked p1_seen_left p1_seen_right p1_seen_size p1_plan_left p1_plan_right p1_plan_size p1_book_left p1_book_right p1_book_size p1_stopCount p1_metric p1_fixed k x.1 x.2) n x = some (z_t_facts, z_t_roundsOf, z_t_locked, z_t_rules, z_t_sizes, z_t_rows, z_t_seen_left, z_t_seen_right, z_t_seen_size, z_t_plan_left, z_t_plan_right, z_t_plan_size, z_t_book_left, z_t_book_right, z_t_book_size, z_t_stopCount, z_t_metric, z_t_fixed)) {H : Heap} {locs : List Loc} {ls : Array Slot} (S : St G A s.heap H locs (w_X6_copyFrom G a_t a_t_facts a_t_roundsOf a_t_locked a_t_rules a_t_sizes a_t_rows a_t_seen a_t_plan a_t_book a_t_seen_left a_t_seen_right a_t_plan_left a_t_plan_right a_t_book_left a_t_book_right a_p1 a_p1_facts a_p1_roundsOf a_p1_locked a_p1_rules a_p1_sizes a_p1_rows a_p1_seen a_p1_plan a_p1_book a_p1_seen_left a_p1_seen_right a_p1_plan_left a_p1_plan_right a_p1_book_left a_p1_book_right t_stopCount t_metric t_fixed t_facts t_roundsOf x.2 t_rules t_sizes t_rows t_seen_size t_seen_left t_seen_right t_plan_size t_plan_left t_plan_right t_book_size t_book_left t_book_right p1_stopCount p1_metric p1_fixed p1_facts p1_roundsOf p1_locked p1_rules p1_sizes p1_rows p1_seen_size p1_seen_left p1_seen_right p1_plan_size p1_plan_left p1_plan_right p1_book_size p1_book_left p1_book_right)) (hl : lv_has ls 3 [(0, .ref a_t), (1, .ref a_p1), (2, .int x.1)]) : W p l e rm_X6_copyFrom s m args below meth c H locs 0 0 (QV G below args s A (w_X6_copyFrom G a_t a_t_facts a_t_roundsOf a_t_locked a_t_rules a_t_sizes a_t_rows a_t_seen a_t_plan a_t_book a_t_seen_left a_t_seen_right a_t_plan_left a_t_plan_right a_t_book_left a_t_book_right a_p1 a_p1_facts a_p1_roundsOf a_p1_locked a_p1_rules a_p1_sizes a_p1_rows a_p1_seen a_p1_plan a_p1_book a_p1_seen_left a_p1_seen_right a_p1_plan_left a_p1_plan_right a_p1_book_left a_p1_book_right z_t_stopCount z_t_metric z_t_fixed z_t_facts z_t_roundsOf z_t_locked z_t_rules z_t_sizes z_t_rows z_t_seen_size z_t_seen_left z_t_seen_right z_t_plan_size z_t_plan_left z_t_plan_right z_t_book_size z_t_book_left z_t_book_right p1_stopCount p1_metric p1_fixed p1_facts p1_roundsOf p1_locked p1_rules p1_sizes p1_rows p1_seen_size p1_seen_left p1_seen_right p1_plan_size p1_plan_left p1_plan_right p1_book_size p1_book_left p1_book_right)) (F0 m 57 ls []) :=
  lp_ind (P := fun x => ∀ {H : Heap} {locs : List Loc} {ls : Array Slot}, St G A s.heap H locs (w_X6_copyFrom G a_t a_t_facts a_t_roundsOf a_t_locked a_t_rules a_t_sizes a_t_rows a_t_seen a_t_plan a_t_book a_t_seen_left a_t_seen_right a_t_plan_left a_t_plan_right a_t_book_left a_t_book_right a_p1 a_p1_facts a_p1_roundsOf a_p1_locked a_p1_rules a_p1_sizes a_p1_rows a_p1_seen a_p1_plan a_p1_book a_p1_seen_left a_p1_seen_right a_p1_plan_left a_p1_plan_right a_p1_book_left a_p1_book_right t_stopCount t_metric t_fixed t_facts t_roundsOf x.2 t_rules t_sizes t_rows t_seen_size t_seen_left t_seen_right t_plan_size t_plan_left t_plan_right t_book_size t_book_left t_book_right p1_stopCount p1_metric p1_fixed p1_facts p1_roundsOf p1_locked p1_rules p1_sizes p1_rows p1_seen_size p1_seen_left p1_seen_right p1_plan_size p1_plan_left p1_plan_right p1_book_size p1_book_left p1_book_right) → lv_has ls 3 [(0, .ref a_t), (1, .ref a_p1), (2, .int x.1)] → W p l e rm_X6_copyFrom s m args below meth c H locs 0 0 (QV G below args s A (w_X6_copyFrom G a_t a_t_facts a_t_roundsOf a_t_locked a_t_rules a_t_sizes a_t_rows a_t_seen a_t_plan a_t_book a_t_seen_left a_t_seen_right a_t_plan_left a_t_plan_right a_t_book_left a_t_book_right a_p1 a_p1_facts a_p1_roundsOf a_p1_locked a_p1_rules a_p1_sizes a_p1_rows a_p1_seen a_p1_plan a_p1_book a_p1_seen_left a_p1_seen_right a_p1_plan_left a_p1_plan_right a_p1_book_left a_p1_book_right z_t_stopCount z_t_metric z_t_fixed z_t_facts z_t_roundsOf z_t_locked z_t_rules z_t_sizes z_t_rows z_t_seen_size z_t_seen_left z_t_seen_right z_t_plan_size z_t_plan_left z_t_plan_right z_t_book_size z_t_book_left z_t_book_right p1_stopCount p1_metric p1_fixed p1_facts p1_roundsOf p1_locked p1_rules p1_sizes p1_rows p1_seen_size p1_seen_left p1_seen_right p1_plan_size p1_plan_left p1_plan_right p1_book_size p1_book_left p1_book_right)) (F0 m 57 ls [])) (fun k hk x hf _ _ _ S hl => k_X6_copyFrom_57 C t_stopCount t_metric t_fixed t_facts t_roundsOf x.2 t_rules t_sizes t_rows t_seen_size t_seen_left t_seen_right t_plan_size t_plan_left t_plan_right t_book_size t_book_left t_book_right p1_stopCount p1_metric p1_fixed p1_facts p1_roundsOf p1_locked p1_rules p1_sizes p1_rows p1_seen_size p1_seen_left p1_seen_right p1_plan_size p1_plan_left p1_plan_right p1_book_size p1_book_left p1_book_right x.1  k (fun x2' t_locked'  h S hl => hk (x2', t_locked') h S hl) hf S hl) n x hf S hl
set_option maxRecDepth 100000 in
set_option maxHeartbeats 4000000 in
theorem c_X6_copyFrom (l : Launch) (G : GE) (a_t a_t_facts a_t_roundsOf a_t_locked a_t_rules a_t_sizes a_t_rows a_t_seen a_t_plan a_t_book a_t_seen_left a_t_seen_right a_t_plan_left a_t_plan_right a_t_book_left a_t_book_right a_p1 a_p1_facts a_p1_roundsOf a_p1_locked a_p1_rules a_p1_sizes a_p1_rows a_p1_seen a_p1_plan a_p1_book a_p1_seen_left a_p1_seen_right a_p1_plan_left a_p1_plan_right a_p1_book_left a_p1_book_right : Nat) (t_stopCount : Int32) (t_metric : Int32) (t_fixed : Int32) (t_facts : Nat → Int32) (t_roundsOf : Nat → Int32) (t_locked : Nat → Int32) (t_rules : Nat → Int32) (t_sizes : Nat → Int32) (t_rows : Nat → Int32) (t_seen_size : Int32) (t_seen_left : Nat → Int32) (t_seen_right : Nat → Int32) (t_plan_size : Int32) (t_plan_left : Nat → Int32) (t_plan_right : Nat → Int32) (t_book_size : Int32) (t_book_left : Nat → Int32) (t_book_right : Nat → Int32) (p1_stopCount : Int32) (p1_metric : Int32) (p1_fixed : Int32) (p1_facts : Nat → Int32) (p1_roundsOf : Nat → Int32) (p1_locked : Nat → Int32) (p1_rules : Nat → Int32) (p1_sizes : Nat → Int32) (p1_rows : Nat → Int32) (p1_seen_size : Int32) (p1_seen_left : Nat → Int32) (p1_seen_right : Nat → Int32) (p1_plan_size : Int32) (p1_plan_left : Nat → Int32) (p1_plan_right : Nat → Int32) (p1_book_size : Int32) (p1_book_left : Nat → Int32) (p1_book_right : Nat → Int32) (z_t_facts : Nat → Int32) (z_t_roundsOf : Nat → Int32) (z_t_locked : Nat → Int32) (z_t_rules : Nat → Int32) (z_t_sizes : Nat → Int32) (z_t_rows : Nat → Int32) (z_t_seen_left : Nat → Int32) (z_t_seen_right : Nat → Int32) (z_t_seen_size : Int32) (z_t_plan_left : Nat → Int32) (z_t_plan_right : Nat → Int32) (z_t_plan_size : Int32) (z_t_book_left : Nat → Int32) (z_t_book_right : Nat → Int32) (z_t_book_size : Int32) (z_t_stopCount : Int32) (z_t_metric : Int32) (z_t_fixed : Int32) (hf : f_X6_copyFrom t_facts t_roundsOf t_locked t_rules t_sizes t_rows t_seen_left t_seen_right t_plan_left t_plan_right t_book_left t_book_right p1_facts p1_roundsOf p1_locked p1_rules p1_sizes p1_rows p1_seen_left p1_seen_right p1_seen_size p1_plan_left p1_plan_right p1_plan_size p1_book_left p1_book_right p1_book_size p1_stopCount p1_metric p1_fixed = some (z_t_facts, z_t_roundsOf, z_t_locked, z_t_rules, z_t_sizes, z_t_rows, z_t_seen_left, z_t_seen_right, z_t_seen_size, z_t_plan_left, z_t_plan_right, z_t_plan_size, z_t_book_left, z_t_book_right, z_t_book_size, z_t_stopCount, z_t_metric, z_t_fixed)) : CV l G yX6_copyFrom kw_X6_copyFrom rm_X6_copyFrom [.ref a_t, .ref a_p1] (w_X6_copyFrom G a_t a_t_facts a_t_roundsOf a_t_locked a_t_rules a_t_sizes a_t_rows a_t_seen a_t_plan a_t_book a_t_seen_left a_t_seen_right a_t_plan_left a_t_plan_right a_t_book_left a_t_book_right a_p1 a_p1_facts a_p1_roundsOf a_p1_locked a_p1_rules a_p1_sizes a_p1_rows a_p1_seen a_p1_plan a_p1_book a_p1_seen_left a_p1_seen_right a_p1_plan_left a_p1_plan_right a_p1_book_left a_p1_book_right t_stopCount t_metric t_fixed t_facts t_roundsOf t_locked t_rules t_sizes t_rows t_seen_size t_seen_left t_seen_right t_plan_size t_plan_left t_plan_right t_book_size t_book_left t_book_right p1_stopCount p1_metric p1_fixed p1_facts p1_roundsOf p1_locked p1_rules p1_sizes p1_rows p1_seen_size p1_seen_left p1_seen_right p1_plan_size p1_plan_left p1_plan_right p1_book_size p1_book_left p1_book_right) (w_X6_copyFrom G a_t a_t_facts a_t_roundsOf a_t_locked a_t_rules a_t_sizes a_t_rows a_t_seen a_t_plan a_t_book a_t_seen_left a_t_seen_right a_t_plan_left a_t_plan_right a_t_book_left a_t_book_right a_p1 a_p1_facts a_p1_roundsOf a_p1_locked a_p1_rules a_p1_sizes a_p1_rows a_p1_seen a_p1_plan a_p1_book a_p1_seen_left a_p1_seen_right a_p1_plan_left a_p1_plan_right a_p1_book_left a_p1_book_right z_t_stopCount z_t_metric z_t_fixed z_t_facts z_t_roundsOf z_t_locked z_t_rules z_t_sizes z_t_rows z_t_seen_size z_t_seen_left z_t_seen_right z_t_plan_size z_t_plan_left z_t_plan_right z_t_book_size z_t_book_left z_t_book_right p1_stopCount p1_metric p1_fixed p1_facts p1_roundsOf p1_locked p1_rules p1_sizes p1_rows p1_seen_size p1_seen_left p1_seen_right p1_plan_size p1_plan_left p1_plan_right p1_book_size p1_book_left p1_book_right) := by
  refine en_V (cc := cX6_copyFrom) (maxL := 3) (ret := none) (by decide +kernel) (Nat.le_of_ble_eq_true rfl) ?_
  intro p e s m args below meth c A ls C S hl
  have hl : lv_has ls 3 [(0, .ref a_t), (1, .ref a_p1)] := hl
  have C : Cx p s m args meth c cX6_copyFrom none 3 RX6 G A := C
  unfold f_X6_copyFrom at hf
  have hx := C.1
  have hb := C.2.1
  have hown := C.2.2.2.2.1
  have hts := C.2.2.2.2.2.1
  have hN := C.2.2.2.2.2.2.2.2.2.2
  refine lv_aload_n (pc := 0) hx hb dX6_copyFrom_0 rfl (lv_at hl 1 rfl) ?_
  refine x_get (pc := 1) (ci := 6) (T := TX6) (v := .ref a_p1_facts) C S 16 rfl rfl inlX6 0 (by decide) rfl qf_6_9 rfl dX6_copyFrom_1 ?_
  refine lv_aload_n (pc := 4) hx hb dX6_copyFrom_4 rfl (lv_at hl 0 rfl) ?_
  refine x_get (pc := 5) (ci := 6) (T := TX6) (v := .ref a_t_facts) C S 0 rfl rfl inlX6 0 (by decide) rfl qf_6_9 rfl dX6_copyFrom_5 ?_
  obtain ⟨o1_t_facts, hq1, hf⟩ := bd_e hf
  refine x_nV (pc := 8) (As := [.ref a_p1_facts, .ref a_t_facts]) (rest := []) (isC := [17, 1]) (ws' := (w_X6_copyFrom G a_t a_t_facts a_t_roundsOf a_t_locked a_t_rules a_t_sizes a_t_rows a_t_seen a_t_plan a_t_book a_t_seen_left a_t_seen_right a_t_plan_left a_t_plan_right a_t_book_left a_t_book_right a_p1 a_p1_facts a_p1_roundsOf a_p1_locked a_p1_rules a_p1_sizes a_p1_rows a_p1_seen a_p1_plan a_p1_book a_p1_seen_left a_p1_seen_right a_p1_plan_left a_p1_plan_right a_p1_book_left a_p1_book_right t_stopCount t_metric t_fixed o1_t_facts t_roundsOf t_locked t_rules t_sizes t_rows t_seen_size t_seen_left t_seen_right t_plan_size t_plan_left t_plan_right t_book_size t_book_left t_book_right p1_stopCount p1_metric p1_fixed p1_facts p1_roundsOf p1_locked p1_rules p1_sizes p1_rows p1_seen_size p1_seen_left p1_seen_right p1_plan_size p1_plan_left p1_plan_right p1_book_size p1_book_left p1_book_right)) C S (c_X7_copyRow l G a_p1_facts a_t_facts 102 102 p1_facts t_facts o1_t_facts hq1) (u_X6_copyFrom_X7_copyRow_52 hts hN) rfl rfl rfl rfl rfl hl.1 rfl (Nat.le_of_ble_eq_true rfl) dX6_copyFrom_8 (fun H locs S => ?_)
  refine lv_aload_n (pc := 11) hx hb dX6_copyFrom_11 rfl (lv_at hl 1 rfl) ?_
  refine x_get (pc := 12) (ci := 6) (T := TX6) (v := .ref a_p1_roundsOf) C S 16 rfl rfl inlX6 1 (by decide) rfl qf_6_15 rfl dX6_copyFrom_12 ?_
  refine lv_aload_n (pc := 15) hx hb dX6_copyFrom_15 rfl (lv_at hl 0 rfl) ?_
  refine x_get (pc := 16) (ci := 6) (T := TX6) (v := .ref a_t_roundsOf) C S 0 rfl rfl inlX6 1 (by decide) rfl qf_6_15 rfl dX6_copyFrom_16 ?_
  obtain ⟨o2_t_roundsOf, hq2, hf⟩ := bd_e hf
  refine x_nV (pc := 19) (As := [.ref a_p1_roundsOf, .ref a_t_roundsOf]) (rest := []) (isC := [18, 2]) (ws' := (w_X6_copyFrom G a_t a_t_facts a_t_roundsOf a_t_locked a_t_rules a_t_sizes a_t_rows a_t_seen a_t_plan a_t_book a_t_seen_left a_t_seen_right a_t_plan_left a_t_plan_right a_t_book_left a_t_book_right a_p1 a_p1_facts a_p1_roundsOf a_p1_locked a_p1_rules a_p1_sizes a_p1_rows a_p1_seen a_p1_plan a_p1_book a_p1_seen_left a_p1_seen_right a_p1_plan_left a_p1_plan_right a_p1_book_left a_p1_book_right t_stopCount t_metric t_fixed o1_t_facts o2_t_roundsOf t_locked t_rules t_sizes t_rows t_seen_size t_seen_left t_seen_right t_plan_size t_plan_left t_plan_right t_book_size t_book_left t_book_right p1_stopCount p1_metric p1_fixed p1_facts p1_roundsOf p1_locked p1_rules p1_sizes p1_rows p1_seen_size p1_seen_left p1_seen_right p1_plan_size p1_plan_left p1_plan_right p1_book_size p1_book_left p1_book_right)) C S (c_X7_copyRow l G a_p1_roundsOf a_t_roundsOf 16 16 p1_roundsOf t_roundsOf o2_t_roundsOf hq2) (u_X6_copyFrom_X7_copyRow_52 hts hN) rfl rfl rfl rfl rfl hl.1 rfl (Nat.le_of_ble_eq_true rfl) dX6_copyFrom_19 (fun H locs S => ?_)
  refine lv_aload_n (pc := 22) hx hb dX6_copyFrom_22 rfl (lv_at hl 1 rfl) ?_
  refine x_get (pc := 23) (ci := 6) (T := TX6) (v := .ref a_p1_rules) C S 16 rfl rfl inlX6 3 (by decide) rfl qf_6_22 rfl dX6_copyFrom_23 ?_
  refine lv_aload_n (pc := 26) hx hb dX6_copyFrom_26 rfl (lv_at hl 0 rfl) ?_
  refine x_get (pc := 27) (ci := 6) (T := TX6) (v := .ref a_t_rules) C S 0 rfl rfl inlX6 3 (by decide) rfl qf_6_22 rfl dX6_copyFrom_27 ?_
  obtain ⟨o3_t_rules, hq3, hf⟩ := bd_e hf
  refine x_nV (pc := 30) (As := [.ref a_p1_rules, .ref a_t_rules]) (rest := []) (isC := [20, 4]) (ws' := (w_X6_copyFrom G a_t a_t_facts a_t_roundsOf a_t_locked a_t_rules a_t_sizes a_t_rows a_t_seen a_t_plan a_t_book a_t_seen_left a_t_seen_right a_t_plan_left a_t_plan_right a_t_book_left a_t_book_right a_p1 a_p1_facts a_p1_roundsOf a_p1_locked a_p1_rules a_p1_sizes a_p1_rows a_p1_seen a_p1_plan a_p1_book a_p1_seen_left a_p1_seen_right a_p1_plan_left a_p1_plan_right a_p1_book_left a_p1_book_right t_stopCount t_metric t_fixed o1_t_facts o2_t_roundsOf t_locked o3_t_rules t_sizes t_rows t_seen_size t_seen_left t_seen_right t_plan_size t_plan_left t_plan_right t_book_size t_book_left t_book_right p1_stopCount p1_metric p1_fixed p1_facts p1_roundsOf p1_locked p1_rules p1_sizes p1_rows p1_seen_size p1_seen_left p1_seen_right p1_plan_size p1_plan_left p1_plan_right p1_book_size p1_book_left p1_book_right)) C S (c_X7_copyRow l G a_p1_rules a_t_rules 12 12 p1_rules t_rules o3_t_rules hq3) (u_X6_copyFrom_X7_copyRow_52 hts hN) rfl rfl rfl rfl rfl hl.1 rfl (Nat.le_of_ble_eq_true rfl) dX6_copyFrom_30 (fun H locs S => ?_)
  refine lv_aload_n (pc := 33) hx hb dX6_copyFrom_33 rfl (lv_at hl 1 rfl) ?_
  refine x_get (pc := 34) (ci := 6) (T := TX6) (v := .ref a_p1_sizes) C S 16 rfl rfl inlX6 4 (by decide) rfl qf_6_25 rfl dX6_copyFrom_34 ?_
  refine lv_aload_n (pc := 37) hx hb dX6_copyFrom_37 rfl (lv_at hl 0 rfl) ?_
  refine x_get (pc := 38) (ci := 6) (T := TX6) (v := .ref a_t_sizes) C S 0 rfl rfl inlX6 4 (by decide) rfl qf_6_25 rfl dX6_copyFrom_38 ?_
  obtain ⟨o4_t_sizes, hq4, hf⟩ := bd_e hf
  refine x_nV (pc := 41) (As := [.ref a_p1_sizes, .ref a_t_sizes]) (rest := []) (isC := [21, 5]) (ws' := (w_X6_copyFrom G a_t a_t_facts a_t_roundsOf a_t_locked a_t_rules a_t_sizes a_t_rows a_t_seen a_t_plan a_t_book a_t_seen_left a_t_seen_right a_t_plan_left a_t_plan_right a_t_book_left a_t_book_right a_p1 a_p1_facts a_p1_roundsOf a_p1_locked a_p1_rules a_p1_sizes a_p1_rows a_p1_seen a_p1_plan a_p1_book a_p1_seen_left a_p1_seen_right a_p1_plan_left a_p1_plan_right a_p1_book_left a_p1_book_right t_stopCount t_metric t_fixed o1_t_facts o2_t_roundsOf t_locked o3_t_rules o4_t_sizes t_rows t_seen_size t_seen_left t_seen_right t_plan_size t_plan_left t_plan_right t_book_size t_book_left t_book_right p1_stopCount p1_metric p1_fixed p1_facts p1_roundsOf p1_locked p1_rules p1_sizes p1_rows p1_seen_size p1_seen_left p1_seen_right p1_plan_size p1_plan_left p1_plan_right p1_book_size p1_book_left p1_book_right)) C S (c_X7_copyRow l G a_p1_sizes a_t_sizes 4 4 p1_sizes t_sizes o4_t_sizes hq4) (u_X6_copyFrom_X7_copyRow_52 hts hN) rfl rfl rfl rfl rfl hl.1 rfl (Nat.le_of_ble_eq_true rfl) dX6_copyFrom_41 (fun H locs S => ?_)
  refine lv_aload_n (pc := 44) hx hb dX6_copyFrom_44 rfl (lv_at hl 1 rfl) ?_
  refine x_get (pc := 45) (ci := 6) (T := TX6) (v := .ref a_p1_rows) C S 16 rfl rfl inlX6 5 (by decide) rfl qf_6_28 rfl dX6_copyFrom_45 ?_
  refine lv_aload_n (pc := 48) hx hb dX6_copyFrom_48 rfl (lv_at hl 0 rfl) ?_
  refine x_get (pc := 49) (ci := 6) (T := TX6) (v := .ref a_t_rows) C S 0 rfl rfl inlX6 5 (by decide) rfl qf_6_28 rfl dX6_copyFrom_49 ?_
  obtain ⟨o5_t_rows, hq5, hf⟩ := bd_e hf
  refine x_nV (pc := 52) (As := [.ref a_p1_rows, .ref a_t_rows]) (rest := []) (isC := [22, 6]) (ws' := (w_X6_copyFrom G a_t a_t_facts a_t_roundsOf a_t_locked a_t_rules a_t_sizes a_t_rows a_t_seen a_t_plan a_t_book a_t_seen_left a_t_seen_right a_t_plan_left a_t_plan_right a_t_book_left a_t_book_right a_p1 a_p1_facts a_p1_roundsOf a_p1_locked a_p1_rules a_p1_sizes a_p1_rows a_p1_seen a_p1_plan a_p1_book a_p1_seen_left a_p1_seen_right a_p1_plan_left a_p1_plan_right a_p1_book_left a_p1_book_right t_stopCount t_metric t_fixed o1_t_facts o2_t_roundsOf t_locked o3_t_rules o4_t_sizes o5_t_rows t_seen_size t_seen_left t_seen_right t_plan_size t_plan_left t_plan_right t_book_size t_book_left t_book_right p1_stopCount p1_metric p1_fixed p1_facts p1_roundsOf p1_locked p1_rules p1_sizes p1_rows p1_seen_size p1_seen_left p1_seen_right p1_plan_size p1_plan_left p1_plan_right p1_book_size p1_book_left p1_book_right)) C S (c_X7_copyRow l G a_p1_rows a_t_rows 64 64 p1_rows t_rows o5_t_rows hq5) (u_X6_copyFrom_X7_copyRow_52 hts hN) rfl rfl rfl rfl rfl hl.1 rfl (Nat.le_of_ble_eq_true rfl) dX6_copyFrom_52 (fun H locs S => ?_)
  refine lv_iconst (pc := 55) hx hb dX6_copyFrom_55 ic_0 ?_
  refine lv_istore_n (pc := 56) (lv' := [(2, .int (0 : Int32)), (0, .ref a_t), (1, .ref a_p1)]) hx hb dX6_copyFrom_56 rfl hl (by decide) rfl (fun ls hl => ?_)
  exact h_X6_copyFrom_57 C (t_stopCount) (t_metric) (t_fixed) (o1_t_facts) (o2_t_roundsOf) (o3_t_rules) (o4_t_sizes) (o5_t_rows) (t_seen_size) (t_seen_left) (t_seen_right) (t_plan_size) (t_plan_left) (t_plan_right) (t_book_size) (t_book_left) (t_book_right) (p1_stopCount) (p1_metric) (p1_fixed) (p1_facts) (p1_roundsOf) (p1_locked) (p1_rules) (p1_sizes) (p1_rows) (p1_seen_size) (p1_seen_left) (p1_seen_right) (p1_plan_size) (p1_plan_left) (p1_plan_right) (p1_book_size) (p1_book_left) (p1_book_right) fu ((0 : Int32), t_locked) hf S (lv_sub hl [1, 2, 0] rfl)
end
abbrev rm_X6_milesOf : Room := { frames := 2, cells := 0, slots := 0, locals := 50 }
abbrev kw_X6_milesOf : Cond := .code yX6_milesOf cX6_milesOf 4 (some .int)
abbrev w_X6_milesOf (G : GE) (a_t a_t_facts a_t_roundsOf a_t_locked a_t_rules a_t_sizes a_t_rows a_t_seen a_t_plan a_t_book : Nat) (t_stopCount : Int32) (t_metric : Int32) (t_fixed : Int32) (t_facts : Nat → Int32) (t_sizes : Nat → Int32) (t_rows : Nat → Int32) : va_W := [(a_t, ob 6 [.ref a_t_facts, .ref a_t_roundsOf, .ref a_t_locked, .ref a_t_rules, .ref a_t_sizes, .ref a_t_rows, .ref a_t_seen, .ref a_t_plan, .ref a_t_book, .int t_stopCount, .int t_metric, .int t_fixed]), (a_t_facts, aI G 102 t_facts), (a_t_sizes, aI G 4 t_sizes), (a_t_rows, aI G 64 t_rows)]
theorem u_X6_milesOf_X6_sizeOf_96 {s : State} {args : Array Value} (hts : ∀ w ∈ WU, w.before args s = true) : CallW rm_X6_milesOf s args RX6 RX6 96 yX6_sizeOf cX6_sizeOf 2 (some .int) (kw_X6_sizeOf :: WU) rm_X6_sizeOf 0 0 1 := cwV 1 hts (gV qm_6_96 qi_X6_sizeOf ql_X6_sizeOf qn_6 qc_X6_sizeOf) rfl rfl rfl (by decide +kernel) ⟨Nat.le_of_ble_eq_true rfl, Nat.le_of_ble_eq_true rfl⟩
theorem u_X6_milesOf_X6_rowAt_103 {s : State} {args : Array Value} (hts : ∀ w ∈ WU, w.before args s = true) : CallW rm_X6_milesOf s args RX6 RX6 103 yX6_rowAt cX6_rowAt 4 (some .int) (kw_X6_rowAt :: WU) rm_X6_rowAt 0 0 2 := cwV 2 hts (gV qm_6_103 qi_X6_rowAt ql_X6_rowAt qn_6 qc_X6_rowAt) rfl rfl rfl (by decide +kernel) ⟨Nat.le_of_ble_eq_true rfl, Nat.le_of_ble_eq_true rfl⟩
theorem u_X6_milesOf_X6_way_114 {s : State} {args : Array Value} (hts : ∀ w ∈ WU, w.before args s = true) : CallW rm_X6_milesOf s args RX6 RX6 114 yX6_way cX6_way 3 (some .int) (kw_X6_way :: WU) rm_X6_way 0 0 2 := cwV 2 hts (gV qm_6_114 qi_X6_way ql_X6_way qn_6 qc_X6_way) rfl rfl rfl (by decide +kernel) ⟨Nat.le_of_ble_eq_true rfl, Nat.le_of_ble_eq_true rfl⟩
section
variable {p : Program} {l : Launch} {e : Env} {s : State} {m : MethodId} {args : Array Value} {below : List Frame} {meth : Method} {c : Code} {A : Nat → Prop} {G : GE} {a_t a_t_facts a_t_roundsOf a_t_locked a_t_rules a_t_sizes a_t_rows a_t_seen a_t_plan a_t_book : Nat} {r : Int32}
set_option maxRecDepth 100000 in
set_option maxHeartbeats 4000000 in
theorem k_X6_milesOf_4 (C : Cx p s m args meth c cX6_milesOf (some .int) 4 RX6 G A) (t_stopCount : Int32) (t_metric : Int32) (t_fixed : Int32) (t_facts : Nat → Int32) (t_sizes : Nat → Int32) (t_rows : Nat → Int32) (x1 : Int32) (x2 : Int32) (x3 : Int32) (k4 : Int32 × Int32 → Option (Int32)) (hk4 : ∀ {H : Heap} {locs : List Loc} {ls : Array Slot} (x2' : Int32) (x3' : Int32), k4 (x2', x3') = some r → St G A s.heap H locs (w_X6_milesOf G a_t a_t_facts a_t_roundsOf a_t_locked a_t_rules a_t_sizes a_t_rows a_t_seen a_t_plan a_t_book t_stopCount t_metric t_fixed t_facts t_sizes t_rows) → lv_has ls 4 [(0, .ref a_t), (1, .int x1), (2, .int x2'), (3, .int x3')] → W p l e rm_X6_milesOf s m args below meth c H locs 0 0 (QI G below args s A r (w_X6_milesOf G a_t a_t_facts a_t_roundsOf a_t_locked a_t_rules a_t_sizes a_t_rows a_t_seen a_t_plan a_t_book t_stopCount t_metric t_fixed t_facts t_sizes t_rows)) (F0 m 4 ls [])) {H : Heap} {locs : List Loc} {ls : Array Slot} (hf : b_X6_milesOf_4 x1 t_facts t_sizes t_rows t_metric k4 x2 x3 = some r) (S : St G A s.heap H locs (w_X6_milesOf G a_t a_t_facts a_t_roundsOf a_t_locked a_t_rules a_t_sizes a_t_rows a_t_seen a_t_plan a_t_book t_stopCount t_metric t_fixed t_facts t_sizes t_rows)) (hl : lv_has ls 4 [(0, .ref a_t), (1, .int x1), (2, .int x2), (3, .int x3)]) : W p l e rm_X6_milesOf s m args below meth c H locs 0 0 (QI G below args s A r (w_X6_milesOf G a_t a_t_facts a_t_roundsOf a_t_locked a_t_rules a_t_sizes a_t_rows a_t_seen a_t_plan a_t_book t_stopCount t_metric t_fixed t_facts t_sizes t_rows)) (F0 m 4 ls []) := by
  unfold b_X6_milesOf_4 at hf
  have hx := C.1
  have hb := C.2.1
  have hown := C.2.2.2.2.1
  have hts := C.2.2.2.2.2.1
  have hN := C.2.2.2.2.2.2.2.2.2.2
  refine lv_iload_n (pc := 4) hx hb dX6_milesOf_4 rfl (lv_at hl 3 rfl) ?_
  refine lv_aload_n (pc := 5) hx hb dX6_milesOf_5 rfl (lv_at hl 0 rfl) ?_
  refine lv_iload_n (pc := 6) hx hb dX6_milesOf_6 rfl (lv_at hl 1 rfl) ?_
  obtain ⟨r1, hq1, hf⟩ := bd_e hf
  refine x_vI (pc := 7) (As := [.int x1]) (rest := [.int x3]) (isC := [0, 2]) (ws' := (w_X6_milesOf G a_t a_t_facts a_t_roundsOf a_t_locked a_t_rules a_t_sizes a_t_rows a_t_seen a_t_plan a_t_book t_stopCount t_metric t_fixed t_facts t_sizes t_rows)) C S (c_X6_sizeOf l G a_t a_t_facts a_t_roundsOf a_t_locked a_t_rules a_t_sizes a_t_rows a_t_seen a_t_plan a_t_book t_stopCount t_metric t_fixed t_sizes x1 r1 hq1) (u_X6_milesOf_X6_sizeOf_96 hts) (ci := 6) rfl 0 rfl rfl rfl rfl rfl rfl hl.1 rfl (Nat.le_of_ble_eq_true rfl) dX6_milesOf_7 (fun H locs S => ?_)
  refine lv_icmp_gt (tgt := 40) (pc := 10) hx hb dX6_milesOf_10 (by decide) (fun c2 => ?_) (fun c2 => ?_)
  · have hf := ifp c2 hf
    refine lv_iload_n (pc := 40) hx hb dX6_milesOf_40 rfl (lv_at hl 2 rfl) ?_
    cases hf
    exact x_iret (pc := 41) C S dX6_milesOf_41
  · have hf := ifn c2 hf
    refine lv_iload_n (pc := 13) hx hb dX6_milesOf_13 rfl (lv_at hl 2 rfl) ?_
    refine lv_aload_n (pc := 14) hx hb dX6_milesOf_14 rfl (lv_at hl 0 rfl) ?_
    refine lv_aload_n (pc := 15) hx hb dX6_milesOf_15 rfl (lv_at hl 0 rfl) ?_
    refine lv_iload_n (pc := 16) hx hb dX6_milesOf_16 rfl (lv_at hl 1 rfl) ?_
    refine lv_iload_n (pc := 17) hx hb dX6_milesOf_17 rfl (lv_at hl 3 rfl) ?_
    refine lv_iconst (pc := 18) hx hb dX6_milesOf_18 ic_1 ?_
    refine lv_isub (pc := 19) hx hb dX6_milesOf_19 ?_
    obtain ⟨r3, hq3, hf⟩ := bd_e hf
    refine x_vI (pc := 20) (As := [.int x1, .int (x3 - (1 : Int32))]) (rest := [.ref a_t, .int x2]) (isC := [0, 2, 3]) (ws' := (w_X6_milesOf G a_t a_t_facts a_t_roundsOf a_t_locked a_t_rules a_t_sizes a_t_rows a_t_seen a_t_plan a_t_book t_stopCount t_metric t_fixed t_facts t_sizes t_rows)) C S (c_X6_rowAt l G a_t a_t_facts a_t_roundsOf a_t_locked a_t_rules a_t_sizes a_t_rows a_t_seen a_t_plan a_t_book t_stopCount t_metric t_fixed t_sizes t_rows x1 (x3 - (1 : Int32)) r3 hq3) (u_X6_milesOf_X6_rowAt_103 hts) (ci := 6) rfl 0 rfl rfl rfl rfl rfl rfl hl.1 rfl (Nat.le_of_ble_eq_true rfl) dX6_milesOf_20 (fun H locs S => ?_)
    refine lv_aload_n (pc := 23) hx hb dX6_milesOf_23 rfl (lv_at hl 0 rfl) ?_
    refine lv_iload_n (pc := 24) hx hb dX6_milesOf_24 rfl (lv_at hl 1 rfl) ?_
    refine lv_iload_n (pc := 25) hx hb dX6_milesOf_25 rfl (lv_at hl 3 rfl) ?_
    obtain ⟨r4, hq4, hf⟩ := bd_e hf
    refine x_vI (pc := 26) (As := [.int x1, .int x3]) (rest := [.int r3, .ref a_t, .int x2]) (isC := [0, 2, 3]) (ws' := (w_X6_milesOf G a_t a_t_facts a_t_roundsOf a_t_locked a_t_rules a_t_sizes a_t_rows a_t_seen a_t_plan a_t_book t_stopCount t_metric t_fixed t_facts t_sizes t_rows)) C S (c_X6_rowAt l G a_t a_t_facts a_t_roundsOf a_t_locked a_t_rules a_t_sizes a_t_rows a_t_seen a_t_plan a_t_book t_stopCount t_metric t_fixed t_sizes t_rows x1 x3 r4 hq4) (u_X6_milesOf_X6_rowAt_103 hts) (ci := 6) rfl 0 rfl rfl rfl rfl rfl rfl hl.1 rfl (Nat.le_of_ble_eq_true rfl) dX6_milesOf_26 (fun H locs S => ?_)
    obtain ⟨r5, hq5, hf⟩ := bd_e hf
    refine x_vI (pc := 29) (As := [.int r3, .int r4]) (rest := [.int x2]) (isC := [0, 1]) (ws' := (w_X6_milesOf G a_t a_t_facts a_t_roundsOf a_t_locked a_t_rules a_t_sizes a_t_rows a_t_seen a_t_plan a_t_book t_stopCount t_metric t_fixed t_facts t_sizes t_rows)) C S (c_X6_way l G a_t a_t_facts a_t_roundsOf a_t_locked a_t_rules a_t_sizes a_t_rows a_t_seen a_t_plan a_t_book t_stopCount t_metric t_fixed t_facts r3 r4 r5 hq5) (u_X6_milesOf_X6_way_114 hts) (ci := 6) rfl 0 rfl rfl rfl rfl rfl rfl hl.1 rfl (Nat.le_of_ble_eq_true rfl) dX6_milesOf_29 (fun H locs S => ?_)
    refine lv_iadd (pc := 32) hx hb dX6_milesOf_32 ?_
    refine lv_istore_n (pc := 33) (lv' := [(2, .int (x2 + r5)), (0, .ref a_t), (1, .int x1), (3, .int x3)]) hx hb dX6_milesOf_33 rfl hl (by decide) rfl (fun ls hl => ?_)
    refine lv_iinc (pc := 34) (v := (x3 + (1 : Int32))) (lv' := [(3, .int (x3 + (1 : Int32))), (2, .int (x2 + r5)), (0, .ref a_t), (1, .int x1)]) hx hb dX6_milesOf_34 hl (k := 3) rfl (congrArg (fun z => x3 + z) ic_1) (by decide) rfl (fun ls hl => ?_)
    refine lv_goto (tgt := 4) (pc := 37) hx hb dX6_milesOf_37 (by decide) ?_
    exact hk4 ((x2 + r5)) ((x3 + (1 : Int32)))  hf S (lv_sub hl [2, 3, 1, 0] rfl)
set_option maxRecDepth 100000 in
set_option maxHeartbeats 4000000 in
theorem h_X6_milesOf_4 (C : Cx p s m args meth c cX6_milesOf (some .int) 4 RX6 G A) (t_stopCount : Int32) (t_metric : Int32) (t_fixed : Int32) (t_facts : Nat → Int32) (t_sizes : Nat → Int32) (t_rows : Nat → Int32) (x1 : Int32) (n : Nat) (x : Int32 × Int32) (hf : lp (fun k x => b_X6_milesOf_4 x1 t_facts t_sizes t_rows t_metric k x.1 x.2) n x = some r) {H : Heap} {locs : List Loc} {ls : Array Slot} (S : St G A s.heap H locs (w_X6_milesOf G a_t a_t_facts a_t_roundsOf a_t_locked a_t_rules a_t_sizes a_t_rows a_t_seen a_t_plan a_t_book t_stopCount t_metric t_fixed t_facts t_sizes t_rows)) (hl : lv_has ls 4 [(0, .ref a_t), (1, .int x1), (2, .int x.1), (3, .int x.2)]) : W p l e rm_X6_milesOf s m args below meth c H locs 0 0 (QI G below args s A r (w_X6_milesOf G a_t a_t_facts a_t_roundsOf a_t_locked a_t_rules a_t_sizes a_t_rows a_t_seen a_t_plan a_t_book t_stopCount t_metric t_fixed t_facts t_sizes t_rows)) (F0 m 4 ls []) :=
  lp_ind (P := fun x => ∀ {H : Heap} {locs : List Loc} {ls : Array Slot}, St G A s.heap H locs (w_X6_milesOf G a_t a_t_facts a_t_roundsOf a_t_locked a_t_rules a_t_sizes a_t_rows a_t_seen a_t_plan a_t_book t_stopCount t_metric t_fixed t_facts t_sizes t_rows) → lv_has ls 4 [(0, .ref a_t), (1, .int x1), (2, .int x.1), (3, .int x.2)] → W p l e rm_X6_milesOf s m args below meth c H locs 0 0 (QI G below args s A r (w_X6_milesOf G a_t a_t_facts a_t_roundsOf a_t_locked a_t_rules a_t_sizes a_t_rows a_t_seen a_t_plan a_t_book t_stopCount t_metric t_fixed t_facts t_sizes t_rows)) (F0 m 4 ls [])) (fun k hk x hf _ _ _ S hl => k_X6_milesOf_4 C t_stopCount t_metric t_fixed t_facts t_sizes t_rows x1 x.1 x.2  k (fun x2' x3'  h S hl => hk (x2', x3') h S hl) hf S hl) n x hf S hl
set_option maxRecDepth 100000 in
set_option maxHeartbeats 4000000 in
theorem c_X6_milesOf (l : Launch) (G : GE) (a_t a_t_facts a_t_roundsOf a_t_locked a_t_rules a_t_sizes a_t_rows a_t_seen a_t_plan a_t_book : Nat) (t_stopCount : Int32) (t_metric : Int32) (t_fixed : Int32) (t_facts : Nat → Int32) (t_sizes : Nat → Int32) (t_rows : Nat → Int32) (x1 : Int32) (r : Int32) (hf : f_X6_milesOf t_facts t_sizes t_rows t_metric x1 = some r) : CI l G yX6_milesOf kw_X6_milesOf rm_X6_milesOf [.ref a_t, .int x1] (w_X6_milesOf G a_t a_t_facts a_t_roundsOf a_t_locked a_t_rules a_t_sizes a_t_rows a_t_seen a_t_plan a_t_book t_stopCount t_metric t_fixed t_facts t_sizes t_rows) r (w_X6_milesOf G a_t a_t_facts a_t_roundsOf a_t_locked a_t_rules a_t_sizes a_t_rows a_t_seen a_t_plan a_t_book t_stopCount t_metric t_fixed t_facts t_sizes t_rows) := by
  refine en_I (cc := cX6_milesOf) (maxL := 4) (ret := (some .int)) (by decide +kernel) (Nat.le_of_ble_eq_true rfl) ?_
  intro p e s m args below meth c A ls C S hl
  have hl : lv_has ls 4 [(0, .ref a_t), (1, .int x1)] := hl
  have C : Cx p s m args meth c cX6_milesOf (some .int) 4 RX6 G A := C
  unfold f_X6_milesOf at hf
  have hx := C.1
  have hb := C.2.1
  have hown := C.2.2.2.2.1
  have hts := C.2.2.2.2.2.1
  have hN := C.2.2.2.2.2.2.2.2.2.2
  refine lv_iconst (pc := 0) hx hb dX6_milesOf_0 ic_0 ?_
  refine lv_istore_n (pc := 1) (lv' := [(2, .int (0 : Int32)), (0, .ref a_t), (1, .int x1)]) hx hb dX6_milesOf_1 rfl hl (by decide) rfl (fun ls hl => ?_)
  refine lv_iconst (pc := 2) hx hb dX6_milesOf_2 ic_0 ?_
  refine lv_istore_n (pc := 3) (lv' := [(3, .int (0 : Int32)), (2, .int (0 : Int32)), (0, .ref a_t), (1, .int x1)]) hx hb dX6_milesOf_3 rfl hl (by decide) rfl (fun ls hl => ?_)
  exact h_X6_milesOf_4 C (t_stopCount) (t_metric) (t_fixed) (t_facts) (t_sizes) (t_rows) (x1) fu ((0 : Int32), (0 : Int32)) hf S (lv_sub hl [2, 3, 1, 0] rfl)
end
abbrev rm_X6_milesOfAll : Room := { frames := 3, cells := 0, slots := 0, locals := 73 }
abbrev kw_X6_milesOfAll : Cond := .code yX6_milesOfAll cX6_milesOfAll 3 (some .int)
abbrev w_X6_milesOfAll (G : GE) (a_t a_t_facts a_t_roundsOf a_t_locked a_t_rules a_t_sizes a_t_rows a_t_seen a_t_plan a_t_book : Nat) (t_stopCount : Int32) (t_metric : Int32) (t_fixed : Int32) (t_facts : Nat → Int32) (t_sizes : Nat → Int32) (t_rows : Nat → Int32) : va_W := [(a_t, ob 6 [.ref a_t_facts, .ref a_t_roundsOf, .ref a_t_locked, .ref a_t_rules, .ref a_t_sizes, .ref a_t_rows, .ref a_t_seen, .ref a_t_plan, .ref a_t_book, .int t_stopCount, .int t_metric, .int t_fixed]), (a_t_facts, aI G 102 t_facts), (a_t_sizes, aI G 4 t_sizes), (a_t_rows, aI G 64 t_rows)]
theorem u_X6_milesOfAll_X6_milesOf_117 {s : State} {args : Array Value} (hts : ∀ w ∈ WU, w.before args s = true) : CallW rm_X6_milesOfAll s args RX6 RX6 117 yX6_milesOf cX6_milesOf 4 (some .int) (kw_X6_milesOf :: WU) rm_X6_milesOf 0 0 1 := cwV 1 hts (gV qm_6_117 qi_X6_milesOf ql_X6_milesOf qn_6 qc_X6_milesOf) rfl rfl rfl (by decide +kernel) ⟨Nat.le_of_ble_eq_true rfl, Nat.le_of_ble_eq_true rfl⟩
section
variable {p : Program} {l : Launch} {e : Env} {s : State} {m : MethodId} {args : Array Value} {below : List Frame} {meth : Method} {c : Code} {A : Nat → Prop} {G : GE} {a_t a_t_facts a_t_roundsOf a_t_locked a_t_rules a_t_sizes a_t_rows a_t_seen a_t_plan a_t_book : Nat} {r : Int32}
set_option maxRecDepth 100000 in
set_option maxHeartbeats 4000000 in
theorem k_X6_milesOfAll_4 (C : Cx p s m args meth c cX6_milesOfAll (some .int) 3 RX6 G A) (t_stopCount : Int32) (t_metric : Int32) (t_fixed : Int32) (t_facts : Nat → Int32) (t_sizes : Nat → Int32) (t_rows : Nat → Int32) (x1 : Int32) (x2 : Int32) (k4 : Int32 × Int32 → Option (Int32)) (hk4 : ∀ {H : Heap} {locs : List Loc} {ls : Array Slot} (x1' : Int32) (x2' : Int32), k4 (x1', x2') = some r → St G A s.heap H locs (w_X6_milesOfAll G a_t a_t_facts a_t_roundsOf a_t_locked a_t_rules a_t_sizes a_t_rows a_t_seen a_t_plan a_t_book t_stopCount t_metric t_fixed t_facts t_sizes t_rows) → lv_has ls 3 [(0, .ref a_t), (1, .int x1'), (2, .int x2')] → W p l e rm_X6_milesOfAll s m args below meth c H locs 0 0 (QI G below args s A r (w_X6_milesOfAll G a_t a_t_facts a_t_roundsOf a_t_locked a_t_rules a_t_sizes a_t_rows a_t_seen a_t_plan a_t_book t_stopCount t_metric t_fixed t_facts t_sizes t_rows)) (F0 m 4 ls [])) {H : Heap} {locs : List Loc} {ls : Array Slot} (hf : b_X6_milesOfAll_4 t_facts t_sizes t_rows t_metric k4 x1 x2 = some r) (S : St G A s.heap H locs (w_X6_milesOfAll G a_t a_t_facts a_t_roundsOf a_t_locked a_t_rules a_t_sizes a_t_rows a_t_seen a_t_plan a_t_book t_stopCount t_metric t_fixed t_facts t_sizes t_rows)) (hl : lv_has ls 3 [(0, .ref a_t), (1, .int x1), (2, .int x2)]) : W p l e rm_X6_milesOfAll s m args below meth c H locs 0 0 (QI G below args s A r (w_X6_milesOfAll G a_t a_t_facts a_t_roundsOf a_t_locked a_t_rules a_t_sizes a_t_rows a_t_seen a_t_plan a_t_book t_stopCount t_metric t_fixed t_facts t_sizes t_rows)) (F0 m 4 ls []) := by
  unfold b_X6_milesOfAll_4 at hf
  have hx := C.1
  have hb := C.2.1
  have hown := C.2.2.2.2.1
  have hts := C.2.2.2.2.2.1
  have hN := C.2.2.2.2.2.2.2.2.2.2
  refine lv_iload_n (pc := 4) hx hb dX6_milesOfAll_4 rfl (lv_at hl 2 rfl) ?_
  refine lv_iconst (pc := 5) hx hb dX6_milesOfAll_5 ic_4 ?_
  refine lv_icmp_ge (tgt := 23) (pc := 6) hx hb dX6_milesOfAll_6 (by decide) (fun c1 => ?_) (fun c1 => ?_)
  · have hf := ifp c1 hf
    refine lv_iload_n (pc := 23) hx hb dX6_milesOfAll_23 rfl (lv_at hl 1 rfl) ?_
    cases hf
    exact x_iret (pc := 24) C S dX6_milesOfAll_24
  · have hf := ifn c1 hf
    refine lv_iload_n (pc := 9) hx hb dX6_milesOfAll_9 rfl (lv_at hl 1 rfl) ?_
    refine lv_aload_n (pc := 10) hx hb dX6_milesOfAll_10 rfl (lv_at hl 0 rfl) ?_
    refine lv_iload_n (pc := 11) hx hb dX6_milesOfAll_11 rfl (lv_at hl 2 rfl) ?_
    obtain ⟨r2, hq2, hf⟩ := bd_e hf
    refine x_vI (pc := 12) (As := [.int x2]) (rest := [.int x1]) (isC := [0, 1, 2, 3]) (ws' := (w_X6_milesOfAll G a_t a_t_facts a_t_roundsOf a_t_locked a_t_rules a_t_sizes a_t_rows a_t_seen a_t_plan a_t_book t_stopCount t_metric t_fixed t_facts t_sizes t_rows)) C S (c_X6_milesOf l G a_t a_t_facts a_t_roundsOf a_t_locked a_t_rules a_t_sizes a_t_rows a_t_seen a_t_plan a_t_book t_stopCount t_metric t_fixed t_facts t_sizes t_rows x2 r2 hq2) (u_X6_milesOfAll_X6_milesOf_117 hts) (ci := 6) rfl 0 rfl rfl rfl rfl rfl rfl hl.1 rfl (Nat.le_of_ble_eq_true rfl) dX6_milesOfAll_12 (fun H locs S => ?_)
    refine lv_iadd (pc := 15) hx hb dX6_milesOfAll_15 ?_
    refine lv_istore_n (pc := 16) (lv' := [(1, .int (x1 + r2)), (0, .ref a_t), (2, .int x2)]) hx hb dX6_milesOfAll_16 rfl hl (by decide) rfl (fun ls hl => ?_)
    refine lv_iinc (pc := 17) (v := (x2 + (1 : Int32))) (lv' := [(2, .int (x2 + (1 : Int32))), (1, .int (x1 + r2)), (0, .ref a_t)]) hx hb dX6_milesOfAll_17 hl (k := 2) rfl (congrArg (fun z => x2 + z) ic_1) (by decide) rfl (fun ls hl => ?_)
    refine lv_goto (tgt := 4) (pc := 20) hx hb dX6_milesOfAll_20 (by decide) ?_
    exact hk4 ((x1 + r2)) ((x2 + (1 : Int32)))  hf S (lv_sub hl [2, 1, 0] rfl)
set_option maxRecDepth 100000 in
set_option maxHeartbeats 4000000 in
theorem h_X6_milesOfAll_4 (C : Cx p s m args meth c cX6_milesOfAll (some .int) 3 RX6 G A) (t_stopCount : Int32) (t_metric : Int32) (t_fixed : Int32) (t_facts : Nat → Int32) (t_sizes : Nat → Int32) (t_rows : Nat → Int32) (n : Nat) (x : Int32 × Int32) (hf : lp (fun k x => b_X6_milesOfAll_4 t_facts t_sizes t_rows t_metric k x.1 x.2) n x = some r) {H : Heap} {locs : List Loc} {ls : Array Slot} (S : St G A s.heap H locs (w_X6_milesOfAll G a_t a_t_facts a_t_roundsOf a_t_locked a_t_rules a_t_sizes a_t_rows a_t_seen a_t_plan a_t_book t_stopCount t_metric t_fixed t_facts t_sizes t_rows)) (hl : lv_has ls 3 [(0, .ref a_t), (1, .int x.1), (2, .int x.2)]) : W p l e rm_X6_milesOfAll s m args below meth c H locs 0 0 (QI G below args s A r (w_X6_milesOfAll G a_t a_t_facts a_t_roundsOf a_t_locked a_t_rules a_t_sizes a_t_rows a_t_seen a_t_plan a_t_book t_stopCount t_metric t_fixed t_facts t_sizes t_rows)) (F0 m 4 ls []) :=
  lp_ind (P := fun x => ∀ {H : Heap} {locs : List Loc} {ls : Array Slot}, St G A s.heap H locs (w_X6_milesOfAll G a_t a_t_facts a_t_roundsOf a_t_locked a_t_rules a_t_sizes a_t_rows a_t_seen a_t_plan a_t_book t_stopCount t_metric t_fixed t_facts t_sizes t_rows) → lv_has ls 3 [(0, .ref a_t), (1, .int x.1), (2, .int x.2)] → W p l e rm_X6_milesOfAll s m args below meth c H locs 0 0 (QI G below args s A r (w_X6_milesOfAll G a_t a_t_facts a_t_roundsOf a_t_locked a_t_rules a_t_sizes a_t_rows a_t_seen a_t_plan a_t_book t_stopCount t_metric t_fixed t_facts t_sizes t_rows)) (F0 m 4 ls [])) (fun k hk x hf _ _ _ S hl => k_X6_milesOfAll_4 C t_stopCount t_metric t_fixed t_facts t_sizes t_rows x.1 x.2  k (fun x1' x2'  h S hl => hk (x1', x2') h S hl) hf S hl) n x hf S hl
set_option maxRecDepth 100000 in
set_option maxHeartbeats 4000000 in
theorem c_X6_milesOfAll (l : Launch) (G : GE) (a_t a_t_facts a_t_roundsOf a_t_locked a_t_rules a_t_sizes a_t_rows a_t_seen a_t_plan a_t_book : Nat) (t_stopCount : Int32) (t_metric : Int32) (t_fixed : Int32) (t_facts : Nat → Int32) (t_sizes : Nat → Int32) (t_rows : Nat → Int32) (r : Int32) (hf : f_X6_milesOfAll t_facts t_sizes t_rows t_metric = some r) : CI l G yX6_milesOfAll kw_X6_milesOfAll rm_X6_milesOfAll [.ref a_t] (w_X6_milesOfAll G a_t a_t_facts a_t_roundsOf a_t_locked a_t_rules a_t_sizes a_t_rows a_t_seen a_t_plan a_t_book t_stopCount t_metric t_fixed t_facts t_sizes t_rows) r (w_X6_milesOfAll G a_t a_t_facts a_t_roundsOf a_t_locked a_t_rules a_t_sizes a_t_rows a_t_seen a_t_plan a_t_book t_stopCount t_metric t_fixed t_facts t_sizes t_rows) := by
  refine en_I (cc := cX6_milesOfAll) (maxL := 3) (ret := (some .int)) (by decide +kernel) (Nat.le_of_ble_eq_true rfl) ?_
  intro p e s m args below meth c A ls C S hl
  have hl : lv_has ls 3 [(0, .ref a_t)] := hl
  have C : Cx p s m args meth c cX6_milesOfAll (some .int) 3 RX6 G A := C
  unfold f_X6_milesOfAll at hf
  have hx := C.1
  have hb := C.2.1
  have hown := C.2.2.2.2.1
  have hts := C.2.2.2.2.2.1
  have hN := C.2.2.2.2.2.2.2.2.2.2
  refine lv_iconst (pc := 0) hx hb dX6_milesOfAll_0 ic_0 ?_
  refine lv_istore_n (pc := 1) (lv' := [(1, .int (0 : Int32)), (0, .ref a_t)]) hx hb dX6_milesOfAll_1 rfl hl (by decide) rfl (fun ls hl => ?_)
  refine lv_iconst (pc := 2) hx hb dX6_milesOfAll_2 ic_0 ?_
  refine lv_istore_n (pc := 3) (lv' := [(2, .int (0 : Int32)), (1, .int (0 : Int32)), (0, .ref a_t)]) hx hb dX6_milesOfAll_3 rfl hl (by decide) rfl (fun ls hl => ?_)
  exact h_X6_milesOfAll_4 C (t_stopCount) (t_metric) (t_fixed) (t_facts) (t_sizes) (t_rows) fu ((0 : Int32), (0 : Int32)) hf S (lv_sub hl [2, 1, 0] rfl)
end
abbrev rm_X6_usedRounds : Room := { frames := 1, cells := 0, slots := 0, locals := 21 }
abbrev kw_X6_usedRounds : Cond := .code yX6_usedRounds cX6_usedRounds 3 (some .int)
abbrev w_X6_usedRounds (G : GE) (a_t a_t_facts a_t_roundsOf a_t_locked a_t_rules a_t_sizes a_t_rows a_t_seen a_t_plan a_t_book : Nat) (t_stopCount : Int32) (t_metric : Int32) (t_fixed : Int32) (t_sizes : Nat → Int32) : va_W := [(a_t, ob 6 [.ref a_t_facts, .ref a_t_roundsOf, .ref a_t_locked, .ref a_t_rules, .ref a_t_sizes, .ref a_t_rows, .ref a_t_seen, .ref a_t_plan, .ref a_t_book, .int t_stopCount, .int t_metric, .int t_fixed]), (a_t_sizes, aI G 4 t_sizes)]
theorem u_X6_usedRounds_X6_sizeOf_96 {s : State} {args : Array Value} (hts : ∀ w ∈ WU, w.before args s = true) : CallW rm_X6_usedRounds s args RX6 RX6 96 yX6_sizeOf cX6_sizeOf 2 (some .int) (kw_X6_sizeOf :: WU) rm_X6_sizeOf 0 0 1 := cwV 1 hts (gV qm_6_96 qi_X6_sizeOf ql_X6_sizeOf qn_6 qc_X6_sizeOf) rfl rfl rfl (by decide +kernel) ⟨Nat.le_of_ble_eq_true rfl, Nat.le_of_ble_eq_true rfl⟩
section
variable {p : Program} {l : Launch} {e : Env} {s : State} {m : MethodId} {args : Array Value} {below : List Frame} {meth : Method} {c : Code} {A : Nat → Prop} {G : GE} {a_t a_t_facts a_t_roundsOf a_t_locked a_t_rules a_t_sizes a_t_rows a_t_seen a_t_plan a_t_book : Nat} {r : Int32}
set_option maxRecDepth 100000 in
set_option maxHeartbeats 4000000 in
theorem k_X6_usedRounds_4 (C : Cx p s m args meth c cX6_usedRounds (some .int) 3 RX6 G A) (t_stopCount : Int32) (t_metric : Int32) (t_fixed : Int32) (t_sizes : Nat → Int32) (x1 : Int32) (x2 : Int32) (k4 : Int32 × Int32 → Option (Int32)) (hk4 : ∀ {H : Heap} {locs : List Loc} {ls : Array Slot} (x1' : Int32) (x2' : Int32), k4 (x1', x2') = some r → St G A s.heap H locs (w_X6_usedRounds G a_t a_t_facts a_t_roundsOf a_t_locked a_t_rules a_t_sizes a_t_rows a_t_seen a_t_plan a_t_book t_stopCount t_metric t_fixed t_sizes) → lv_has ls 3 [(0, .ref a_t), (1, .int x1'), (2, .int x2')] → W p l e rm_X6_usedRounds s m args below meth c H locs 0 0 (QI G below args s A r (w_X6_usedRounds G a_t a_t_facts a_t_roundsOf a_t_locked a_t_rules a_t_sizes a_t_rows a_t_seen a_t_plan a_t_book t_stopCount t_metric t_fixed t_sizes)) (F0 m 4 ls [])) {H : Heap} {locs : List Loc} {ls : Array Slot} (hf : b_X6_usedRounds_4 t_sizes k4 x1 x2 = some r) (S : St G A s.heap H locs (w_X6_usedRounds G a_t a_t_facts a_t_roundsOf a_t_locked a_t_rules a_t_sizes a_t_rows a_t_seen a_t_plan a_t_book t_stopCount t_metric t_fixed t_sizes)) (hl : lv_has ls 3 [(0, .ref a_t), (1, .int x1), (2, .int x2)]) : W p l e rm_X6_usedRounds s m args below meth c H locs 0 0 (QI G below args s A r (w_X6_usedRounds G a_t a_t_facts a_t_roundsOf a_t_locked a_t_rules a_t_sizes a_t_rows a_t_seen a_t_plan a_t_book t_stopCount t_metric t_fixed t_sizes)) (F0 m 4 ls []) := by
  unfold b_X6_usedRounds_4 at hf
  have hx := C.1
  have hb := C.2.1
  have hown := C.2.2.2.2.1
  have hts := C.2.2.2.2.2.1
  have hN := C.2.2.2.2.2.2.2.2.2.2
  refine lv_iload_n (pc := 4) hx hb dX6_usedRounds_4 rfl (lv_at hl 2 rfl) ?_
  refine lv_iconst (pc := 5) hx hb dX6_usedRounds_5 ic_4 ?_
  refine lv_icmp_ge (tgt := 31) (pc := 6) hx hb dX6_usedRounds_6 (by decide) (fun c1 => ?_) (fun c1 => ?_)
  · have hf := ifp c1 hf
    refine lv_iload_n (pc := 31) hx hb dX6_usedRounds_31 rfl (lv_at hl 1 rfl) ?_
    cases hf
    exact x_iret (pc := 32) C S dX6_usedRounds_32
  · have hf := ifn c1 hf
    refine lv_iload_n (pc := 9) hx hb dX6_usedRounds_9 rfl (lv_at hl 1 rfl) ?_
    refine lv_aload_n (pc := 10) hx hb dX6_usedRounds_10 rfl (lv_at hl 0 rfl) ?_
    refine lv_iload_n (pc := 11) hx hb dX6_usedRounds_11 rfl (lv_at hl 2 rfl) ?_
    obtain ⟨r2, hq2, hf⟩ := bd_e hf
    refine x_vI (pc := 12) (As := [.int x2]) (rest := [.int x1]) (isC := [0, 1]) (ws' := (w_X6_usedRounds G a_t a_t_facts a_t_roundsOf a_t_locked a_t_rules a_t_sizes a_t_rows a_t_seen a_t_plan a_t_book t_stopCount t_metric t_fixed t_sizes)) C S (c_X6_sizeOf l G a_t a_t_facts a_t_roundsOf a_t_locked a_t_rules a_t_sizes a_t_rows a_t_seen a_t_plan a_t_book t_stopCount t_metric t_fixed t_sizes x2 r2 hq2) (u_X6_usedRounds_X6_sizeOf_96 hts) (ci := 6) rfl 0 rfl rfl rfl rfl rfl rfl hl.1 rfl (Nat.le_of_ble_eq_true rfl) dX6_usedRounds_12 (fun H locs S => ?_)
    refine lv_if_le (tgt := 22) (pc := 15) hx hb dX6_usedRounds_15 (by decide) (fun c3 => ?_) (fun c3 => ?_)
    · have hf := ifp c3 hf
      refine lv_iconst (pc := 22) hx hb dX6_usedRounds_22 ic_0 ?_
      refine lv_iadd (pc := 23) hx hb dX6_usedRounds_23 ?_
      refine lv_istore_n (pc := 24) (lv' := [(1, .int (x1 + (0 : Int32))), (0, .ref a_t), (2, .int x2)]) hx hb dX6_usedRounds_24 rfl hl (by decide) rfl (fun ls hl => ?_)
      refine lv_iinc (pc := 25) (v := (x2 + (1 : Int32))) (lv' := [(2, .int (x2 + (1 : Int32))), (1, .int (x1 + (0 : Int32))), (0, .ref a_t)]) hx hb dX6_usedRounds_25 hl (k := 2) rfl (congrArg (fun z => x2 + z) ic_1) (by decide) rfl (fun ls hl => ?_)
      refine lv_goto (tgt := 4) (pc := 28) hx hb dX6_usedRounds_28 (by decide) ?_
      exact hk4 ((x1 + (0 : Int32))) ((x2 + (1 : Int32)))  hf S (lv_sub hl [2, 1, 0] rfl)
    · have hf := ifn c3 hf
      refine lv_iconst (pc := 18) hx hb dX6_usedRounds_18 ic_1 ?_
      refine lv_goto (tgt := 23) (pc := 19) hx hb dX6_usedRounds_19 (by decide) ?_
      refine lv_iadd (pc := 23) hx hb dX6_usedRounds_23 ?_
      refine lv_istore_n (pc := 24) (lv' := [(1, .int (x1 + (1 : Int32))), (0, .ref a_t), (2, .int x2)]) hx hb dX6_usedRounds_24 rfl hl (by decide) rfl (fun ls hl => ?_)
      refine lv_iinc (pc := 25) (v := (x2 + (1 : Int32))) (lv' := [(2, .int (x2 + (1 : Int32))), (1, .int (x1 + (1 : Int32))), (0, .ref a_t)]) hx hb dX6_usedRounds_25 hl (k := 2) rfl (congrArg (fun z => x2 + z) ic_1) (by decide) rfl (fun ls hl => ?_)
      refine lv_goto (tgt := 4) (pc := 28) hx hb dX6_usedRounds_28 (by decide) ?_
      exact hk4 ((x1 + (1 : Int32))) ((x2 + (1 : Int32)))  hf S (lv_sub hl [2, 1, 0] rfl)
set_option maxRecDepth 100000 in
set_option maxHeartbeats 4000000 in
theorem h_X6_usedRounds_4 (C : Cx p s m args meth c cX6_usedRounds (some .int) 3 RX6 G A) (t_stopCount : Int32) (t_metric : Int32) (t_fixed : Int32) (t_sizes : Nat → Int32) (n : Nat) (x : Int32 × Int32) (hf : lp (fun k x => b_X6_usedRounds_4 t_sizes k x.1 x.2) n x = some r) {H : Heap} {locs : List Loc} {ls : Array Slot} (S : St G A s.heap H locs (w_X6_usedRounds G a_t a_t_facts a_t_roundsOf a_t_locked a_t_rules a_t_sizes a_t_rows a_t_seen a_t_plan a_t_book t_stopCount t_metric t_fixed t_sizes)) (hl : lv_has ls 3 [(0, .ref a_t), (1, .int x.1), (2, .int x.2)]) : W p l e rm_X6_usedRounds s m args below meth c H locs 0 0 (QI G below args s A r (w_X6_usedRounds G a_t a_t_facts a_t_roundsOf a_t_locked a_t_rules a_t_sizes a_t_rows a_t_seen a_t_plan a_t_book t_stopCount t_metric t_fixed t_sizes)) (F0 m 4 ls []) :=
  lp_ind (P := fun x => ∀ {H : Heap} {locs : List Loc} {ls : Array Slot}, St G A s.heap H locs (w_X6_usedRounds G a_t a_t_facts a_t_roundsOf a_t_locked a_t_rules a_t_sizes a_t_rows a_t_seen a_t_plan a_t_book t_stopCount t_metric t_fixed t_sizes) → lv_has ls 3 [(0, .ref a_t), (1, .int x.1), (2, .int x.2)] → W p l e rm_X6_usedRounds s m args below meth c H locs 0 0 (QI G below args s A r (w_X6_usedRounds G a_t a_t_facts a_t_roundsOf a_t_locked a_t_rules a_t_sizes a_t_rows a_t_seen a_t_plan a_t_book t_stopCount t_metric t_fixed t_sizes)) (F0 m 4 ls [])) (fun k hk x hf _ _ _ S hl => k_X6_usedRounds_4 C t_stopCount t_metric t_fixed t_sizes x.1 x.2  k (fun x1' x2'  h S hl => hk (x1', x2') h S hl) hf S hl) n x hf S hl
set_option maxRecDepth 100000 in
set_option maxHeartbeats 4000000 in
theorem c_X6_usedRounds (l : Launch) (G : GE) (a_t a_t_facts a_t_roundsOf a_t_locked a_t_rules a_t_sizes a_t_rows a_t_seen a_t_plan a_t_book : Nat) (t_stopCount : Int32) (t_metric : Int32) (t_fixed : Int32) (t_sizes : Nat → Int32) (r : Int32) (hf : f_X6_usedRounds t_sizes = some r) : CI l G yX6_usedRounds kw_X6_usedRounds rm_X6_usedRounds [.ref a_t] (w_X6_usedRounds G a_t a_t_facts a_t_roundsOf a_t_locked a_t_rules a_t_sizes a_t_rows a_t_seen a_t_plan a_t_book t_stopCount t_metric t_fixed t_sizes) r (w_X6_usedRounds G a_t a_t_facts a_t_roundsOf a_t_locked a_t_rules a_t_sizes a_t_rows a_t_seen a_t_plan a_t_book t_stopCount t_metric t_fixed t_sizes) := by
  refine en_I (cc := cX6_usedRounds) (maxL := 3) (ret := (some .int)) (by decide +kernel) (Nat.le_of_ble_eq_true rfl) ?_
  intro p e s m args below meth c A ls C S hl
  have hl : lv_has ls 3 [(0, .ref a_t)] := hl
  have C : Cx p s m args meth c cX6_usedRounds (some .int) 3 RX6 G A := C
  unfold f_X6_usedRounds at hf
  have hx := C.1
  have hb := C.2.1
  have hown := C.2.2.2.2.1
  have hts := C.2.2.2.2.2.1
  have hN := C.2.2.2.2.2.2.2.2.2.2
  refine lv_iconst (pc := 0) hx hb dX6_usedRounds_0 ic_0 ?_
  refine lv_istore_n (pc := 1) (lv' := [(1, .int (0 : Int32)), (0, .ref a_t)]) hx hb dX6_usedRounds_1 rfl hl (by decide) rfl (fun ls hl => ?_)
  refine lv_iconst (pc := 2) hx hb dX6_usedRounds_2 ic_0 ?_
  refine lv_istore_n (pc := 3) (lv' := [(2, .int (0 : Int32)), (1, .int (0 : Int32)), (0, .ref a_t)]) hx hb dX6_usedRounds_3 rfl hl (by decide) rfl (fun ls hl => ?_)
  exact h_X6_usedRounds_4 C (t_stopCount) (t_metric) (t_fixed) (t_sizes) fu ((0 : Int32), (0 : Int32)) hf S (lv_sub hl [2, 1, 0] rfl)
end
abbrev rm_X6_cost : Room := { frames := 4, cells := 0, slots := 0, locals := 95 }
abbrev kw_X6_cost : Cond := .code yX6_cost cX6_cost 1 (some .int)
abbrev w_X6_cost (G : GE) (a_t a_t_facts a_t_roundsOf a_t_locked a_t_rules a_t_sizes a_t_rows a_t_seen a_t_plan a_t_book : Nat) (t_stopCount : Int32) (t_metric : Int32) (t_fixed : Int32) (t_facts : Nat → Int32) (t_sizes : Nat → Int32) (t_rows : Nat → Int32) : va_W := [(a_t, ob 6 [.ref a_t_facts, .ref a_t_roundsOf, .ref a_t_locked, .ref a_t_rules, .ref a_t_sizes, .ref a_t_rows, .ref a_t_seen, .ref a_t_plan, .ref a_t_book, .int t_stopCount, .int t_metric, .int t_fixed]), (a_t_facts, aI G 102 t_facts), (a_t_sizes, aI G 4 t_sizes), (a_t_rows, aI G 64 t_rows)]
theorem u_X6_cost_X6_milesOfAll_120 {s : State} {args : Array Value} (hts : ∀ w ∈ WU, w.before args s = true) : CallW rm_X6_cost s args RX6 RX6 120 yX6_milesOfAll cX6_milesOfAll 3 (some .int) (kw_X6_milesOfAll :: WU) rm_X6_milesOfAll 0 0 0 := cwV 0 hts (gV qm_6_120 qi_X6_milesOfAll ql_X6_milesOfAll qn_6 qc_X6_milesOfAll) rfl rfl rfl (by decide +kernel) ⟨Nat.le_of_ble_eq_true rfl, Nat.le_of_ble_eq_true rfl⟩
theorem u_X6_cost_X6_usedRounds_124 {s : State} {args : Array Value} (hts : ∀ w ∈ WU, w.before args s = true) : CallW rm_X6_cost s args RX6 RX6 124 yX6_usedRounds cX6_usedRounds 3 (some .int) (kw_X6_usedRounds :: WU) rm_X6_usedRounds 0 0 0 := cwV 0 hts (gV qm_6_124 qi_X6_usedRounds ql_X6_usedRounds qn_6 qc_X6_usedRounds) rfl rfl rfl (by decide +kernel) ⟨Nat.le_of_ble_eq_true rfl, Nat.le_of_ble_eq_true rfl⟩
section
variable {p : Program} {l : Launch} {e : Env} {s : State} {m : MethodId} {args : Array Value} {below : List Frame} {meth : Method} {c : Code} {A : Nat → Prop} {G : GE} {a_t a_t_facts a_t_roundsOf a_t_locked a_t_rules a_t_sizes a_t_rows a_t_seen a_t_plan a_t_book : Nat} {r : Int32}
set_option maxRecDepth 100000 in
set_option maxHeartbeats 4000000 in
theorem c_X6_cost (l : Launch) (G : GE) (a_t a_t_facts a_t_roundsOf a_t_locked a_t_rules a_t_sizes a_t_rows a_t_seen a_t_plan a_t_book : Nat) (t_stopCount : Int32) (t_metric : Int32) (t_fixed : Int32) (t_facts : Nat → Int32) (t_sizes : Nat → Int32) (t_rows : Nat → Int32) (r : Int32) (hf : f_X6_cost t_facts t_sizes t_rows t_metric t_fixed = some r) : CI l G yX6_cost kw_X6_cost rm_X6_cost [.ref a_t] (w_X6_cost G a_t a_t_facts a_t_roundsOf a_t_locked a_t_rules a_t_sizes a_t_rows a_t_seen a_t_plan a_t_book t_stopCount t_metric t_fixed t_facts t_sizes t_rows) r (w_X6_cost G a_t a_t_facts a_t_roundsOf a_t_locked a_t_rules a_t_sizes a_t_rows a_t_seen a_t_plan a_t_book t_stopCount t_metric t_fixed t_facts t_sizes t_rows) := by
  refine en_I (cc := cX6_cost) (maxL := 1) (ret := (some .int)) (by decide +kernel) (Nat.le_of_ble_eq_true rfl) ?_
  intro p e s m args below meth c A ls C S hl
  have hl : lv_has ls 1 [(0, .ref a_t)] := hl
  have C : Cx p s m args meth c cX6_cost (some .int) 1 RX6 G A := C
  unfold f_X6_cost at hf
  have hx := C.1
  have hb := C.2.1
  have hown := C.2.2.2.2.1
  have hts := C.2.2.2.2.2.1
  have hN := C.2.2.2.2.2.2.2.2.2.2
  refine lv_aload_n (pc := 0) hx hb dX6_cost_0 rfl (lv_at hl 0 rfl) ?_
  obtain ⟨r1, hq1, hf⟩ := bd_e hf
  refine x_vI (pc := 1) (As := []) (rest := []) (isC := [0, 1, 2, 3]) (ws' := (w_X6_cost G a_t a_t_facts a_t_roundsOf a_t_locked a_t_rules a_t_sizes a_t_rows a_t_seen a_t_plan a_t_book t_stopCount t_metric t_fixed t_facts t_sizes t_rows)) C S (c_X6_milesOfAll l G a_t a_t_facts a_t_roundsOf a_t_locked a_t_rules a_t_sizes a_t_rows a_t_seen a_t_plan a_t_book t_stopCount t_metric t_fixed t_facts t_sizes t_rows r1 hq1) (u_X6_cost_X6_milesOfAll_120 hts) (ci := 6) rfl 0 rfl rfl rfl rfl rfl rfl hl.1 rfl (Nat.le_of_ble_eq_true rfl) dX6_cost_1 (fun H locs S => ?_)
  refine lv_aload_n (pc := 4) hx hb dX6_cost_4 rfl (lv_at hl 0 rfl) ?_
  refine x_get (pc := 5) (ci := 6) (T := TX6) (v := .int t_fixed) C S 0 rfl rfl inlX6 11 (by decide) rfl qf_6_67 rfl dX6_cost_5 ?_
  refine lv_aload_n (pc := 8) hx hb dX6_cost_8 rfl (lv_at hl 0 rfl) ?_
  obtain ⟨r2, hq2, hf⟩ := bd_e hf
  refine x_vI (pc := 9) (As := []) (rest := [.int t_fixed, .int r1]) (isC := [0, 2]) (ws' := (w_X6_cost G a_t a_t_facts a_t_roundsOf a_t_locked a_t_rules a_t_sizes a_t_rows a_t_seen a_t_plan a_t_book t_stopCount t_metric t_fixed t_facts t_sizes t_rows)) C S (c_X6_usedRounds l G a_t a_t_facts a_t_roundsOf a_t_locked a_t_rules a_t_sizes a_t_rows a_t_seen a_t_plan a_t_book t_stopCount t_metric t_fixed t_sizes r2 hq2) (u_X6_cost_X6_usedRounds_124 hts) (ci := 6) rfl 0 rfl rfl rfl rfl rfl rfl hl.1 rfl (Nat.le_of_ble_eq_true rfl) dX6_cost_9 (fun H locs S => ?_)
  refine lv_imul (pc := 12) hx hb dX6_cost_12 ?_
  refine lv_iadd (pc := 13) hx hb dX6_cost_13 ?_
  cases hf
  exact x_iret (pc := 14) C S dX6_cost_14
end
abbrev rm_X6_draw : Room := { frames := 2, cells := 0, slots := 0, locals := 51 }
abbrev kw_X6_draw : Cond := .code yX6_draw cX6_draw 9 none
abbrev w_X6_draw (G : GE) (a_t a_t_facts a_t_roundsOf a_t_locked a_t_rules a_t_sizes a_t_rows a_t_seen a_t_plan a_t_book : Nat) (t_stopCount : Int32) (t_metric : Int32) (t_fixed : Int32) (t_facts : Nat → Int32) (t_roundsOf : Nat → Int32) (t_locked : Nat → Int32) : va_W := [(a_t, ob 6 [.ref a_t_facts, .ref a_t_roundsOf, .ref a_t_locked, .ref a_t_rules, .ref a_t_sizes, .ref a_t_rows, .ref a_t_seen, .ref a_t_plan, .ref a_t_book, .int t_stopCount, .int t_metric, .int t_fixed]), (a_t_facts, aI G 102 t_facts), (a_t_roundsOf, aI G 16 t_roundsOf), (a_t_locked, aZ G 16 t_locked)]
theorem u_X6_draw_X6_addStop_73 {s : State} {args : Array Value} (hts : ∀ w ∈ WU, w.before args s = true) : CallW rm_X6_draw s args RX6 RX6 73 yX6_addStop cX6_addStop 8 (some .int) (kw_X6_addStop :: WU) rm_X6_addStop 0 0 6 := cwV 6 hts (gV qm_6_73 qi_X6_addStop ql_X6_addStop qn_6 qc_X6_addStop) rfl rfl rfl (by decide +kernel) ⟨Nat.le_of_ble_eq_true rfl, Nat.le_of_ble_eq_true rfl⟩
theorem u_X6_draw_X7_topOf_81 {s : State} {args : Array Value} (hts : ∀ w ∈ WU, w.before args s = true) (hN : Nx s) : va_CN rm_X6_draw s args RX6 81 yX7_topOf RX7 cX7_topOf 2 (some .int) (kw_X7_topOf :: WU) rm_X7_topOf 0 0 2 ∧ (Cond.static yX7_topOf).before args s = true ∧ True := ⟨va_cnB 2 hts (gW qc_X7_topOf) rfl rfl rfl (hN.1 _ (by decide +kernel : (RX6, 81, yX7_topOf) ∈ nstM)) (hts _ qn_7) (by decide +kernel) ⟨Nat.le_of_ble_eq_true rfl, Nat.le_of_ble_eq_true rfl⟩, hts _ qs_X7_topOf, trivial⟩
theorem u_X6_draw_X6_fact_85 {s : State} {args : Array Value} (hts : ∀ w ∈ WU, w.before args s = true) : CallW rm_X6_draw s args RX6 RX6 85 yX6_fact cX6_fact 4 (some .int) (kw_X6_fact :: WU) rm_X6_fact 0 0 2 := cwV 2 hts (gV qm_6_85 qi_X6_fact ql_X6_fact qn_6 qc_X6_fact) rfl rfl rfl (by decide +kernel) ⟨Nat.le_of_ble_eq_true rfl, Nat.le_of_ble_eq_true rfl⟩
theorem u_X6_draw_X6_setFact_70 {s : State} {args : Array Value} (hts : ∀ w ∈ WU, w.before args s = true) : CallW rm_X6_draw s args RX6 RX6 70 yX6_setFact cX6_setFact 5 none (kw_X6_setFact :: WU) rm_X6_setFact 0 0 3 := cwV 3 hts (gV qm_6_70 qi_X6_setFact ql_X6_setFact qn_6 qc_X6_setFact) rfl rfl rfl (by decide +kernel) ⟨Nat.le_of_ble_eq_true rfl, Nat.le_of_ble_eq_true rfl⟩
section
variable {p : Program} {l : Launch} {e : Env} {s : State} {m : MethodId} {args : Array Value} {below : List Frame} {meth : Method} {c : Code} {A : Nat → Prop} {G : GE} {a_t a_t_facts a_t_roundsOf a_t_locked a_t_rules a_t_sizes a_t_rows a_t_seen a_t_plan a_t_book : Nat} {z_t_facts : Nat → Int32} {z_t_roundsOf : Nat → Int32} {z_t_locked : Nat → Int32} {z_t_stopCount : Int32}
set_option maxRecDepth 100000 in
set_option maxHeartbeats 4000000 in
theorem k_X6_draw_108 (C : Cx p s m args meth c cX6_draw none 9 RX6 G A) (t_stopCount : Int32) (t_metric : Int32) (t_fixed : Int32) (t_facts : Nat → Int32) (t_roundsOf : Nat → Int32) (t_locked : Nat → Int32) (x2 : Int32) (x3 : Int32) (x4 : Int32) (x5 : Int32) (x6 : Int32) (y1 : Int32) (y2 : Int32) (y3 : Int32) (k5 : Int32 × Int32 × (Nat → Int32) × (Nat → Int32) × (Nat → Int32) × Int32 → Option ((Nat → Int32) × (Nat → Int32) × (Nat → Int32) × Int32)) (hk5 : ∀ {H : Heap} {locs : List Loc} {ls : Array Slot} (x3' : Int32) (x4' : Int32) (t_facts' : Nat → Int32) (t_roundsOf' : Nat → Int32) (t_locked' : Nat → Int32) (t_stopCount' : Int32), k5 (x3', x4', t_facts', t_roundsOf', t_locked', t_stopCount') = some (z_t_facts, z_t_roundsOf, z_t_locked, z_t_stopCount) → St G A s.heap H locs (w_X6_draw G a_t a_t_facts a_t_roundsOf a_t_locked a_t_rules a_t_sizes a_t_rows a_t_seen a_t_plan a_t_book t_stopCount' t_metric t_fixed t_facts' t_roundsOf' t_locked') → lv_has ls 9 [(0, .ref a_t), (2, .int x2), (3, .int x3'), (4, .int x4')] → W p l e rm_X6_draw s m args below meth c H locs 0 0 (QV G below args s A (w_X6_draw G a_t a_t_facts a_t_roundsOf a_t_locked a_t_rules a_t_sizes a_t_rows a_t_seen a_t_plan a_t_book z_t_stopCount t_metric t_fixed z_t_facts z_t_roundsOf z_t_locked)) (F0 m 5 ls [])) (k35 : Int32 × Int32 × (Nat → Int32) → Option ((Nat → Int32) × (Nat → Int32) × (Nat → Int32) × Int32)) (hk35 : ∀ {H : Heap} {locs : List Loc} {ls : Array Slot} (x3' : Int32) (x6' : Int32) (t_facts' : Nat → Int32), k35 (x3', x6', t_facts') = some (z_t_facts, z_t_roundsOf, z_t_locked, z_t_stopCount) → St G A s.heap H locs (w_X6_draw G a_t a_t_facts a_t_roundsOf a_t_locked a_t_rules a_t_sizes a_t_rows a_t_seen a_t_plan a_t_book t_stopCount t_metric t_fixed t_facts' t_roundsOf t_locked) → lv_has ls 9 [(0, .ref a_t), (2, .int x2), (3, .int x3'), (4, .int x4), (5, .int x5), (6, .int x6')] → W p l e rm_X6_draw s m args below meth c H locs 0 0 (QV G below args s A (w_X6_draw G a_t a_t_facts a_t_roundsOf a_t_locked a_t_rules a_t_sizes a_t_rows a_t_seen a_t_plan a_t_book z_t_stopCount t_metric t_fixed z_t_facts z_t_roundsOf z_t_locked)) (F0 m 35 ls [])) {H : Heap} {locs : List Loc} {ls : Array Slot} (hf : b_X6_draw_108 k5 k35 x2 x3 x4 x5 x6 y1 y2 y3 t_facts t_roundsOf t_locked t_stopCount = some (z_t_facts, z_t_roundsOf, z_t_locked, z_t_stopCount)) (S : St G A s.heap H locs (w_X6_draw G a_t a_t_facts a_t_roundsOf a_t_locked a_t_rules a_t_sizes a_t_rows a_t_seen a_t_plan a_t_book t_stopCount t_metric t_fixed t_facts t_roundsOf t_locked)) (hl : lv_has ls 9 [(0, .ref a_t), (2, .int x2), (3, .int x3), (4, .int x4), (5, .int x5), (6, .int x6)]) : W p l e rm_X6_draw s m args below meth c H locs 0 0 (QV G below args s A (w_X6_draw G a_t a_t_facts a_t_roundsOf a_t_locked a_t_rules a_t_sizes a_t_rows a_t_seen a_t_plan a_t_book z_t_stopCount t_metric t_fixed z_t_facts z_t_roundsOf z_t_locked)) (F0 m 108 ls [.int y3, .int y2, .int y1, .ref a_t]) := by
  unfold b_X6_draw_108 at hf
  have hx := C.1
  have hb := C.2.1
  have hown := C.2.2.2.2.1
  have hts := C.2.2.2.2.2.1
  have hN := C.2.2.2.2.2.2.2.2.2.2
  obtain ⟨o1_t_facts, hq1, hf⟩ := bd_e hf
  refine x_vV (pc := 108) (As := [.int y1, .int y2, .int y3]) (rest := []) (isC := [0, 1]) (ws' := (w_X6_draw G a_t a_t_facts a_t_roundsOf a_t_locked a_t_rules a_t_sizes a_t_rows a_t_seen a_t_plan a_t_book t_stopCount t_metric t_fixed o1_t_facts t_roundsOf t_locked)) C S (c_X6_setFact l G a_t a_t_facts a_t_roundsOf a_t_locked a_t_rules a_t_sizes a_t_rows a_t_seen a_t_plan a_t_book t_stopCount t_metric t_fixed t_facts y1 y2 y3 o1_t_facts hq1) (u_X6_draw_X6_setFact_70 hts) (ci := 6) rfl 0 rfl rfl rfl rfl rfl rfl hl.1 rfl (Nat.le_of_ble_eq_true rfl) dX6_draw_108 (fun H locs S => ?_)
  refine lv_iinc (pc := 111) (v := (x6 + (1 : Int32))) (lv' := [(6, .int (x6 + (1 : Int32))), (0, .ref a_t), (2, .int x2), (3, .int x3), (4, .int x4), (5, .int x5)]) hx hb dX6_draw_111 hl (k := 5) rfl (congrArg (fun z => x6 + z) ic_1) (by decide) rfl (fun ls hl => ?_)
  refine lv_goto (tgt := 35) (pc := 114) hx hb dX6_draw_114 (by decide) ?_
  exact hk35 (x3) ((x6 + (1 : Int32))) (o1_t_facts)  hf S (lv_sub hl [1, 2, 3, 4, 5, 0] rfl)
set_option maxRecDepth 100000 in
set_option maxHeartbeats 4000000 in
theorem k_X6_draw_77 (C : Cx p s m args meth c cX6_draw none 9 RX6 G A) (t_stopCount : Int32) (t_metric : Int32) (t_fixed : Int32) (t_facts : Nat → Int32) (t_roundsOf : Nat → Int32) (t_locked : Nat → Int32) (x2 : Int32) (x3 : Int32) (x4 : Int32) (x5 : Int32) (x6 : Int32) (y0 : Int32) (k5 : Int32 × Int32 × (Nat → Int32) × (Nat → Int32) × (Nat → Int32) × Int32 → Option ((Nat → Int32) × (Nat → Int32) × (Nat → Int32) × Int32)) (hk5 : ∀ {H : Heap} {locs : List Loc} {ls : Array Slot} (x3' : Int32) (x4' : Int32) (t_facts' : Nat → Int32) (t_roundsOf' : Nat → Int32) (t_locked' : Nat → Int32) (t_stopCount' : Int32), k5 (x3', x4', t_facts', t_roundsOf', t_locked', t_stopCount') = some (z_t_facts, z_t_roundsOf, z_t_locked, z_t_stopCount) → St G A s.heap H locs (w_X6_draw G a_t a_t_facts a_t_roundsOf a_t_locked a_t_rules a_t_sizes a_t_rows a_t_seen a_t_plan a_t_book t_stopCount' t_metric t_fixed t_facts' t_roundsOf' t_locked') → lv_has ls 9 [(0, .ref a_t), (2, .int x2), (3, .int x3'), (4, .int x4')] → W p l e rm_X6_draw s m args below meth c H locs 0 0 (QV G below args s A (w_X6_draw G a_t a_t_facts a_t_roundsOf a_t_locked a_t_rules a_t_sizes a_t_rows a_t_seen a_t_plan a_t_book z_t_stopCount t_metric t_fixed z_t_facts z_t_roundsOf z_t_locked)) (F0 m 5 ls [])) (k35 : Int32 × Int32 × (Nat → Int32) → Option ((Nat → Int32) × (Nat → Int32) × (Nat → Int32) × Int32)) (hk35 : ∀ {H : Heap} {locs : List Loc} {ls : Array Slot} (x3' : Int32) (x6' : Int32) (t_facts' : Nat → Int32), k35 (x3', x6', t_facts') = some (z_t_facts, z_t_roundsOf, z_t_locked, z_t_stopCount) → St G A s.heap H locs (w_X6_draw G a_t a_t_facts a_t_roundsOf a_t_locked a_t_rules a_t_sizes a_t_rows a_t_seen a_t_plan a_t_book t_stopCount t_metric t_fixed t_facts' t_roundsOf t_locked) → lv_has ls 9 [(0, .ref a_t), (2, .int x2), (3, .int x3'), (4, .int x4), (5, .int x5), (6, .int x6')] → W p l e rm_X6_draw s m args below meth c H locs 0 0 (QV G below args s A (w_X6_draw G a_t a_t_facts a_t_roundsOf a_t_locked a_t_rules a_t_sizes a_t_rows a_t_seen a_t_plan a_t_book z_t_stopCount t_metric t_fixed z_t_facts z_t_roundsOf z_t_locked)) (F0 m 35 ls [])) {H : Heap} {locs : List Loc} {ls : Array Slot} (hf : b_X6_draw_77 k5 k35 x2 x3 x4 x5 x6 y0 t_facts t_roundsOf t_locked t_stopCount = some (z_t_facts, z_t_roundsOf, z_t_locked, z_t_stopCount)) (S : St G A s.heap H locs (w_X6_draw G a_t a_t_facts a_t_roundsOf a_t_locked a_t_rules a_t_sizes a_t_rows a_t_seen a_t_plan a_t_book t_stopCount t_metric t_fixed t_facts t_roundsOf t_locked)) (hl : lv_has ls 9 [(0, .ref a_t), (2, .int x2), (3, .int x3), (4, .int x4), (5, .int x5), (6, .int x6)]) : W p l e rm_X6_draw s m args below meth c H locs 0 0 (QV G below args s A (w_X6_draw G a_t a_t_facts a_t_roundsOf a_t_locked a_t_rules a_t_sizes a_t_rows a_t_seen a_t_plan a_t_book z_t_stopCount t_metric t_fixed z_t_facts z_t_roundsOf z_t_locked)) (F0 m 77 ls [.int y0]) := by
  unfold b_X6_draw_77 at hf
  have hx := C.1
  have hb := C.2.1
  have hown := C.2.2.2.2.1
  have hts := C.2.2.2.2.2.1
  have hN := C.2.2.2.2.2.2.2.2.2.2
  refine lv_istore (pc := 77) (lv' := [(8, .int y0), (0, .ref a_t), (2, .int x2), (3, .int x3), (4, .int x4), (5, .int x5), (6, .int x6)]) hx hb dX6_draw_77 hl (by decide) rfl (fun ls hl => ?_)
  refine lv_aload_n (pc := 79) hx hb dX6_draw_79 rfl (lv_at hl 1 rfl) ?_
  refine lv_iload (pc := 80) hx hb dX6_draw_80 (lv_at hl 5 rfl) ?_
  refine lv_iload (pc := 82) hx hb dX6_draw_82 (lv_at hl 6 rfl) ?_
  refine lv_iload (pc := 84) hx hb dX6_draw_84 (lv_at hl 6 rfl) ?_
  refine lv_iconst (pc := 86) hx hb dX6_draw_86 ic_4 ?_
  refine lv_icmp_ne (tgt := 106) (pc := 87) hx hb dX6_draw_87 (by decide) (fun c1 => ?_) (fun c1 => ?_)
  · have hf := ifn c1 hf
    refine lv_iload (pc := 106) hx hb dX6_draw_106 (lv_at hl 0 rfl) ?_
    exact k_X6_draw_108 C (t_stopCount) (t_metric) (t_fixed) (t_facts) (t_roundsOf) (t_locked) (x2) (x3) (x4) (x5) (x6) (x5) (x6) (y0) k5 hk5 k35 hk35 hf S (lv_sub hl [1, 2, 3, 4, 5, 6] rfl)
  · have hf := ifp c1 hf
    refine lv_aload_n (pc := 90) hx hb dX6_draw_90 rfl (lv_at hl 1 rfl) ?_
    refine lv_iload (pc := 91) hx hb dX6_draw_91 (lv_at hl 5 rfl) ?_
    refine lv_iconst (pc := 93) hx hb dX6_draw_93 ic_3 ?_
    obtain ⟨r2, hq2, hf⟩ := bd_e hf
    refine x_vI (pc := 94) (As := [.int x5, .int (3 : Int32)]) (rest := [.int x6, .int x5, .ref a_t]) (isC := [0, 1]) (ws' := (w_X6_draw G a_t a_t_facts a_t_roundsOf a_t_locked a_t_rules a_t_sizes a_t_rows a_t_seen a_t_plan a_t_book t_stopCount t_metric t_fixed t_facts t_roundsOf t_locked)) C S (c_X6_fact l G a_t a_t_facts a_t_roundsOf a_t_locked a_t_rules a_t_sizes a_t_rows a_t_seen a_t_plan a_t_book t_stopCount t_metric t_fixed t_facts x5 (3 : Int32) r2 hq2) (u_X6_draw_X6_fact_85 hts) (ci := 6) rfl 0 rfl rfl rfl rfl rfl rfl hl.1 rfl (Nat.le_of_ble_eq_true rfl) dX6_draw_94 (fun H locs S => ?_)
    refine lv_bipush (pc := 97) hx hb dX6_draw_97 bc_20 ?_
    refine lv_iadd (pc := 99) hx hb dX6_draw_99 ?_
    refine lv_iload (pc := 100) hx hb dX6_draw_100 (lv_at hl 0 rfl) ?_
    refine lv_iadd (pc := 102) hx hb dX6_draw_102 ?_
    refine lv_goto (tgt := 108) (pc := 103) hx hb dX6_draw_103 (by decide) ?_
    exact k_X6_draw_108 C (t_stopCount) (t_metric) (t_fixed) (t_facts) (t_roundsOf) (t_locked) (x2) (x3) (x4) (x5) (x6) (x5) (x6) (((r2 + (20 : Int32)) + y0)) k5 hk5 k35 hk35 hf S (lv_sub hl [1, 2, 3, 4, 5, 6] rfl)
set_option maxRecDepth 100000 in
set_option maxHeartbeats 4000000 in
theorem k_X6_draw_35 (C : Cx p s m args meth c cX6_draw none 9 RX6 G A) (t_stopCount : Int32) (t_metric : Int32) (t_fixed : Int32) (t_facts : Nat → Int32) (t_roundsOf : Nat → Int32) (t_locked : Nat → Int32) (x2 : Int32) (x3 : Int32) (x4 : Int32) (x5 : Int32) (x6 : Int32) (k5 : Int32 × Int32 × (Nat → Int32) × (Nat → Int32) × (Nat → Int32) × Int32 → Option ((Nat → Int32) × (Nat → Int32) × (Nat → Int32) × Int32)) (hk5 : ∀ {H : Heap} {locs : List Loc} {ls : Array Slot} (x3' : Int32) (x4' : Int32) (t_facts' : Nat → Int32) (t_roundsOf' : Nat → Int32) (t_locked' : Nat → Int32) (t_stopCount' : Int32), k5 (x3', x4', t_facts', t_roundsOf', t_locked', t_stopCount') = some (z_t_facts, z_t_roundsOf, z_t_locked, z_t_stopCount) → St G A s.heap H locs (w_X6_draw G a_t a_t_facts a_t_roundsOf a_t_locked a_t_rules a_t_sizes a_t_rows a_t_seen a_t_plan a_t_book t_stopCount' t_metric t_fixed t_facts' t_roundsOf' t_locked') → lv_has ls 9 [(0, .ref a_t), (2, .int x2), (3, .int x3'), (4, .int x4')] → W p l e rm_X6_draw s m args below meth c H locs 0 0 (QV G below args s A (w_X6_draw G a_t a_t_facts a_t_roundsOf a_t_locked a_t_rules a_t_sizes a_t_rows a_t_seen a_t_plan a_t_book z_t_stopCount t_metric t_fixed z_t_facts z_t_roundsOf z_t_locked)) (F0 m 5 ls [])) (k35 : Int32 × Int32 × (Nat → Int32) → Option ((Nat → Int32) × (Nat → Int32) × (Nat → Int32) × Int32)) (hk35 : ∀ {H : Heap} {locs : List Loc} {ls : Array Slot} (x3' : Int32) (x6' : Int32) (t_facts' : Nat → Int32), k35 (x3', x6', t_facts') = some (z_t_facts, z_t_roundsOf, z_t_locked, z_t_stopCount) → St G A s.heap H locs (w_X6_draw G a_t a_t_facts a_t_roundsOf a_t_locked a_t_rules a_t_sizes a_t_rows a_t_seen a_t_plan a_t_book t_stopCount t_metric t_fixed t_facts' t_roundsOf t_locked) → lv_has ls 9 [(0, .ref a_t), (2, .int x2), (3, .int x3'), (4, .int x4), (5, .int x5), (6, .int x6')] → W p l e rm_X6_draw s m args below meth c H locs 0 0 (QV G below args s A (w_X6_draw G a_t a_t_facts a_t_roundsOf a_t_locked a_t_rules a_t_sizes a_t_rows a_t_seen a_t_plan a_t_book z_t_stopCount t_metric t_fixed z_t_facts z_t_roundsOf z_t_locked)) (F0 m 35 ls [])) {H : Heap} {locs : List Loc} {ls : Array Slot} (hf : b_X6_draw_35 k5 x2 x4 x5 t_roundsOf t_locked t_stopCount k35 x3 x6 t_facts = some (z_t_facts, z_t_roundsOf, z_t_locked, z_t_stopCount)) (S : St G A s.heap H locs (w_X6_draw G a_t a_t_facts a_t_roundsOf a_t_locked a_t_rules a_t_sizes a_t_rows a_t_seen a_t_plan a_t_book t_stopCount t_metric t_fixed t_facts t_roundsOf t_locked)) (hl : lv_has ls 9 [(0, .ref a_t), (2, .int x2), (3, .int x3), (4, .int x4), (5, .int x5), (6, .int x6)]) : W p l e rm_X6_draw s m args below meth c H locs 0 0 (QV G below args s A (w_X6_draw G a_t a_t_facts a_t_roundsOf a_t_locked a_t_rules a_t_sizes a_t_rows a_t_seen a_t_plan a_t_book z_t_stopCount t_metric t_fixed z_t_facts z_t_roundsOf z_t_locked)) (F0 m 35 ls []) := by
  unfold b_X6_draw_35 at hf
  have hx := C.1
  have hb := C.2.1
  have hown := C.2.2.2.2.1
  have hts := C.2.2.2.2.2.1
  have hN := C.2.2.2.2.2.2.2.2.2.2
  refine lv_iload (pc := 35) hx hb dX6_draw_35 (lv_at hl 5 rfl) ?_
  refine lv_bipush (pc := 37) hx hb dX6_draw_37 bc_6 ?_
  refine lv_icmp_ge (tgt := 117) (pc := 39) hx hb dX6_draw_39 (by decide) (fun c1 => ?_) (fun c1 => ?_)
  · have hf := ifp c1 hf
    refine lv_iinc (pc := 117) (v := (x4 + (1 : Int32))) (lv' := [(4, .int (x4 + (1 : Int32))), (0, .ref a_t), (2, .int x2), (3, .int x3), (5, .int x5), (6, .int x6)]) hx hb dX6_draw_117 hl (k := 3) rfl (congrArg (fun z => x4 + z) ic_1) (by decide) rfl (fun ls hl => ?_)
    refine lv_goto (tgt := 5) (pc := 120) hx hb dX6_draw_120 (by decide) ?_
    exact hk5 (x3) ((x4 + (1 : Int32))) (t_facts) (t_roundsOf) (t_locked) (t_stopCount)  hf S (lv_sub hl [1, 2, 3, 0] rfl)
  · have hf := ifn c1 hf
    refine lv_iload_n (pc := 42) hx hb dX6_draw_42 rfl (lv_at hl 2 rfl) ?_
    refine lv_ldc (pc := 43) hx hb hown (hts _ qk_6_77) dX6_draw_43 ?_
    refine lv_imul (pc := 45) hx hb dX6_draw_45 ?_
    refine lv_sipush (pc := 46) hx hb dX6_draw_46 sc_12345 ?_
    refine lv_iadd (pc := 49) hx hb dX6_draw_49 ?_
    refine lv_istore_n (pc := 50) (lv' := [(3, .int ((x3 * (1103515245 : Int32)) + (12345 : Int32))), (0, .ref a_t), (2, .int x2), (4, .int x4), (5, .int x5), (6, .int x6)]) hx hb dX6_draw_50 rfl hl (by decide) rfl (fun ls hl => ?_)
    refine x_tabN (pc := 51) C S 1 (by decide) (index := 78) (own := RX6) (by decide +kernel) dX6_draw_51 ?_
    refine lv_iload (pc := 54) hx hb dX6_draw_54 (lv_at hl 5 rfl) ?_
    obtain ⟨r2, hq2, hf⟩ := bd_e hf
    refine x_nI (pc := 56) (As := [.ref (tabA G 1), .int x6]) (rest := []) (isC := []) (ws' := (w_X6_draw G a_t a_t_facts a_t_roundsOf a_t_locked a_t_rules a_t_sizes a_t_rows a_t_seen a_t_plan a_t_book t_stopCount t_metric t_fixed t_facts t_roundsOf t_locked)) C S (c_X7_topOf l G 1 (by decide) x6 r2 hq2) (u_X6_draw_X7_topOf_81 hts hN) rfl rfl rfl rfl rfl hl.1 rfl (Nat.le_of_ble_eq_true rfl) dX6_draw_56 (fun H locs S => ?_)
    refine lv_istore (pc := 59) (lv' := [(7, .int r2), (3, .int ((x3 * (1103515245 : Int32)) + (12345 : Int32))), (0, .ref a_t), (2, .int x2), (4, .int x4), (5, .int x5), (6, .int x6)]) hx hb dX6_draw_59 hl (by decide) rfl (fun ls hl => ?_)
    refine lv_iload (pc := 61) hx hb dX6_draw_61 (lv_at hl 0 rfl) ?_
    refine lv_if_le (tgt := 76) (pc := 63) hx hb dX6_draw_63 (by decide) (fun c3 => ?_) (fun c3 => ?_)
    · have hf := ifp c3 hf
      refine lv_iconst (pc := 76) hx hb dX6_draw_76 ic_0 ?_
      exact k_X6_draw_77 C (t_stopCount) (t_metric) (t_fixed) (t_facts) (t_roundsOf) (t_locked) (x2) (((x3 * (1103515245 : Int32)) + (12345 : Int32))) (x4) (x5) (x6) ((0 : Int32)) k5 hk5 k35 hk35 hf S (lv_sub hl [2, 3, 1, 4, 5, 6] rfl)
    · have hf := ifn c3 hf
      refine lv_iload_n (pc := 66) hx hb dX6_draw_66 rfl (lv_at hl 1 rfl) ?_
      refine lv_bipush (pc := 67) hx hb dX6_draw_67 bc_9 ?_
      refine lv_iushr (pc := 69) hx hb dX6_draw_69 rfl ?_
      refine lv_iload (pc := 70) hx hb dX6_draw_70 (lv_at hl 0 rfl) ?_
      obtain ⟨hz4, hf⟩ := gd_e hf
      refine lv_irem (pc := 72) hx hb dX6_draw_72 hz4 ?_
      refine lv_goto (tgt := 77) (pc := 73) hx hb dX6_draw_73 (by decide) ?_
      exact k_X6_draw_77 C (t_stopCount) (t_metric) (t_fixed) (t_facts) (t_roundsOf) (t_locked) (x2) (((x3 * (1103515245 : Int32)) + (12345 : Int32))) (x4) (x5) (x6) (((((x3 * (1103515245 : Int32)) + (12345 : Int32)).toUInt32 >>> ((9 : Int32).toUInt32 &&& Int32.toUInt32 31)).toInt32 - (((x3 * (1103515245 : Int32)) + (12345 : Int32)).toUInt32 >>> ((9 : Int32).toUInt32 &&& Int32.toUInt32 31)).toInt32 / r2 * r2)) k5 hk5 k35 hk35 hf S (lv_sub hl [2, 3, 1, 4, 5, 6] rfl)
set_option maxRecDepth 100000 in
set_option maxHeartbeats 4000000 in
theorem h_X6_draw_35 (C : Cx p s m args meth c cX6_draw none 9 RX6 G A) (t_stopCount : Int32) (t_metric : Int32) (t_fixed : Int32) (t_roundsOf : Nat → Int32) (t_locked : Nat → Int32) (x2 : Int32) (x4 : Int32) (x5 : Int32) (k5 : Int32 × Int32 × (Nat → Int32) × (Nat → Int32) × (Nat → Int32) × Int32 → Option ((Nat → Int32) × (Nat → Int32) × (Nat → Int32) × Int32)) (hk5 : ∀ {H : Heap} {locs : List Loc} {ls : Array Slot} (x3' : Int32) (x4' : Int32) (t_facts' : Nat → Int32) (t_roundsOf' : Nat → Int32) (t_locked' : Nat → Int32) (t_stopCount' : Int32), k5 (x3', x4', t_facts', t_roundsOf', t_locked', t_stopCount') = some (z_t_facts, z_t_roundsOf, z_t_locked, z_t_stopCount) → St G A s.heap H locs (w_X6_draw G a_t a_t_facts a_t_roundsOf a_t_locked a_t_rules a_t_sizes a_t_rows a_t_seen a_t_plan a_t_book t_stopCount' t_metric t_fixed t_facts' t_roundsOf' t_locked') → lv_has ls 9 [(0, .ref a_t), (2, .int x2), (3, .int x3'), (4, .int x4')] → W p l e rm_X6_draw s m args below meth c H locs 0 0 (QV G below args s A (w_X6_draw G a_t a_t_facts a_t_roundsOf a_t_locked a_t_rules a_t_sizes a_t_rows a_t_seen a_t_plan a_t_book z_t_stopCount t_metric t_fixed z_t_facts z_t_roundsOf z_t_locked)) (F0 m 5 ls [])) (n : Nat) (x : Int32 × Int32 × (Nat → Int32)) (hf : lp (fun k x => b_X6_draw_35 k5 x2 x4 x5 t_roundsOf t_locked t_stopCount k x.1 x.2.1 x.2.2) n x = some (z_t_facts, z_t_roundsOf, z_t_locked, z_t_stopCount)) {H : Heap} {locs : List Loc} {ls : Array Slot} (S : St G A s.heap H locs (w_X6_draw G a_t a_t_facts a_t_roundsOf a_t_locked a_t_rules a_t_sizes a_t_rows a_t_seen a_t_plan a_t_book t_stopCount t_metric t_fixed x.2.2 t_roundsOf t_locked)) (hl : lv_has ls 9 [(0, .ref a_t), (2, .int x2), (3, .int x.1), (4, .int x4), (5, .int x5), (6, .int x.2.1)]) : W p l e rm_X6_draw s m args below meth c H locs 0 0 (QV G below args s A (w_X6_draw G a_t a_t_facts a_t_roundsOf a_t_locked a_t_rules a_t_sizes a_t_rows a_t_seen a_t_plan a_t_book z_t_stopCount t_metric t_fixed z_t_facts z_t_roundsOf z_t_locked)) (F0 m 35 ls []) :=
  lp_ind (P := fun x => ∀ {H : Heap} {locs : List Loc} {ls : Array Slot}, St G A s.heap H locs (w_X6_draw G a_t a_t_facts a_t_roundsOf a_t_locked a_t_rules a_t_sizes a_t_rows a_t_seen a_t_plan a_t_book t_stopCount t_metric t_fixed x.2.2 t_roundsOf t_locked) → lv_has ls 9 [(0, .ref a_t), (2, .int x2), (3, .int x.1), (4, .int x4), (5, .int x5), (6, .int x.2.1)] → W p l e rm_X6_draw s m args below meth c H locs 0 0 (QV G below args s A (w_X6_draw G a_t a_t_facts a_t_roundsOf a_t_locked a_t_rules a_t_sizes a_t_rows a_t_seen a_t_plan a_t_book z_t_stopCount t_metric t_fixed z_t_facts z_t_roundsOf z_t_locked)) (F0 m 35 ls [])) (fun k hk x hf _ _ _ S hl => k_X6_draw_35 C t_stopCount t_metric t_fixed x.2.2 t_roundsOf t_locked x2 x.1 x4 x5 x.2.1  k5 hk5 k (fun x3' x6' t_facts'  h S hl => hk (x3', x6', t_facts') h S hl) hf S hl) n x hf S hl
set_option maxRecDepth 100000 in
set_option maxHeartbeats 4000000 in
theorem k_X6_draw_5 (C : Cx p s m args meth c cX6_draw none 9 RX6 G A) (t_stopCount : Int32) (t_metric : Int32) (t_fixed : Int32) (t_facts : Nat → Int32) (t_roundsOf : Nat → Int32) (t_locked : Nat → Int32) (x2 : Int32) (x3 : Int32) (x4 : Int32) (k5 : Int32 × Int32 × (Nat → Int32) × (Nat → Int32) × (Nat → Int32) × Int32 → Option ((Nat → Int32) × (Nat → Int32) × (Nat → Int32) × Int32)) (hk5 : ∀ {H : Heap} {locs : List Loc} {ls : Array Slot} (x3' : Int32) (x4' : Int32) (t_facts' : Nat → Int32) (t_roundsOf' : Nat → Int32) (t_locked' : Nat → Int32) (t_stopCount' : Int32), k5 (x3', x4', t_facts', t_roundsOf', t_locked', t_stopCount') = some (z_t_facts, z_t_roundsOf, z_t_locked, z_t_stopCount) → St G A s.heap H locs (w_X6_draw G a_t a_t_facts a_t_roundsOf a_t_locked a_t_rules a_t_sizes a_t_rows a_t_seen a_t_plan a_t_book t_stopCount' t_metric t_fixed t_facts' t_roundsOf' t_locked') → lv_has ls 9 [(0, .ref a_t), (2, .int x2), (3, .int x3'), (4, .int x4')] → W p l e rm_X6_draw s m args below meth c H locs 0 0 (QV G below args s A (w_X6_draw G a_t a_t_facts a_t_roundsOf a_t_locked a_t_rules a_t_sizes a_t_rows a_t_seen a_t_plan a_t_book z_t_stopCount t_metric t_fixed z_t_facts z_t_roundsOf z_t_locked)) (F0 m 5 ls [])) {H : Heap} {locs : List Loc} {ls : Array Slot} (hf : b_X6_draw_5 x2 k5 x3 x4 t_facts t_roundsOf t_locked t_stopCount = some (z_t_facts, z_t_roundsOf, z_t_locked, z_t_stopCount)) (S : St G A s.heap H locs (w_X6_draw G a_t a_t_facts a_t_roundsOf a_t_locked a_t_rules a_t_sizes a_t_rows a_t_seen a_t_plan a_t_book t_stopCount t_metric t_fixed t_facts t_roundsOf t_locked)) (hl : lv_has ls 9 [(0, .ref a_t), (2, .int x2), (3, .int x3), (4, .int x4)]) : W p l e rm_X6_draw s m args below meth c H locs 0 0 (QV G below args s A (w_X6_draw G a_t a_t_facts a_t_roundsOf a_t_locked a_t_rules a_t_sizes a_t_rows a_t_seen a_t_plan a_t_book z_t_stopCount t_metric t_fixed z_t_facts z_t_roundsOf z_t_locked)) (F0 m 5 ls []) := by
  unfold b_X6_draw_5 at hf
  have hx := C.1
  have hb := C.2.1
  have hown := C.2.2.2.2.1
  have hts := C.2.2.2.2.2.1
  have hN := C.2.2.2.2.2.2.2.2.2.2
  refine lv_iload (pc := 5) hx hb dX6_draw_5 (lv_at hl 3 rfl) ?_
  refine lv_iload_n (pc := 7) hx hb dX6_draw_7 rfl (lv_at hl 1 rfl) ?_
  refine lv_icmp_ge (tgt := 123) (pc := 8) hx hb dX6_draw_8 (by decide) (fun c1 => ?_) (fun c1 => ?_)
  · have hf := ifp c1 hf
    cases hf
    exact x_vret (pc := 123) C S dX6_draw_123
  · have hf := ifn c1 hf
    refine lv_aload_n (pc := 11) hx hb dX6_draw_11 rfl (lv_at hl 0 rfl) ?_
    refine x_get (pc := 12) (ci := 6) (T := TX6) (v := .int t_stopCount) C S 0 rfl rfl inlX6 9 (by decide) rfl qf_6_60 rfl dX6_draw_12 ?_
    refine lv_bipush (pc := 15) hx hb dX6_draw_15 bc_16 ?_
    refine lv_icmp_ge (tgt := 123) (pc := 17) hx hb dX6_draw_17 (by decide) (fun c2 => ?_) (fun c2 => ?_)
    · have hf := ifp c2 hf
      cases hf
      exact x_vret (pc := 123) C S dX6_draw_123
    · have hf := ifn c2 hf
      refine lv_aload_n (pc := 20) hx hb dX6_draw_20 rfl (lv_at hl 0 rfl) ?_
      refine lv_iconst (pc := 21) hx hb dX6_draw_21 ic_0 ?_
      refine lv_iconst (pc := 22) hx hb dX6_draw_22 ic_0 ?_
      refine lv_iconst (pc := 23) hx hb dX6_draw_23 ic_0 ?_
      refine lv_iconst (pc := 24) hx hb dX6_draw_24 ic_0 ?_
      refine lv_iconst (pc := 25) hx hb dX6_draw_25 ic_0 ?_
      refine lv_iconst (pc := 26) hx hb dX6_draw_26 ic_0 ?_
      obtain ⟨⟨r3, o3_t_facts, o3_t_roundsOf, o3_t_locked, o3_t_stopCount⟩, hq3, hf⟩ := bd_e hf
      refine x_vI (pc := 27) (As := [.int (0 : Int32), .int (0 : Int32), .int (0 : Int32), .int (0 : Int32), .int (0 : Int32), .int (0 : Int32)]) (rest := []) (isC := [0, 1, 2, 3]) (ws' := (w_X6_draw G a_t a_t_facts a_t_roundsOf a_t_locked a_t_rules a_t_sizes a_t_rows a_t_seen a_t_plan a_t_book o3_t_stopCount t_metric t_fixed o3_t_facts o3_t_roundsOf o3_t_locked)) C S (c_X6_addStop l G a_t a_t_facts a_t_roundsOf a_t_locked a_t_rules a_t_sizes a_t_rows a_t_seen a_t_plan a_t_book t_stopCount t_metric t_fixed t_facts t_roundsOf t_locked (0 : Int32) (0 : Int32) (0 : Int32) (0 : Int32) (0 : Int32) (0 : Int32) r3 o3_t_facts o3_t_roundsOf o3_t_locked o3_t_stopCount hq3) (u_X6_draw_X6_addStop_73 hts) (ci := 6) rfl 0 rfl rfl rfl rfl rfl rfl hl.1 rfl (Nat.le_of_ble_eq_true rfl) dX6_draw_27 (fun H locs S => ?_)
      refine lv_istore (pc := 30) (lv' := [(5, .int r3), (0, .ref a_t), (2, .int x2), (3, .int x3), (4, .int x4)]) hx hb dX6_draw_30 hl (by decide) rfl (fun ls hl => ?_)
      refine lv_iconst (pc := 32) hx hb dX6_draw_32 ic_0 ?_
      refine lv_istore (pc := 33) (lv' := [(6, .int (0 : Int32)), (5, .int r3), (0, .ref a_t), (2, .int x2), (3, .int x3), (4, .int x4)]) hx hb dX6_draw_33 hl (by decide) rfl (fun ls hl => ?_)
      exact h_X6_draw_35 C (o3_t_stopCount) (t_metric) (t_fixed) (o3_t_roundsOf) (o3_t_locked) (x2) (x4) (r3) k5 hk5 fu (x3, (0 : Int32), o3_t_facts) hf S (lv_sub hl [2, 3, 4, 5, 1, 0] rfl)
set_option maxRecDepth 100000 in
set_option maxHeartbeats 4000000 in
theorem h_X6_draw_5 (C : Cx p s m args meth c cX6_draw none 9 RX6 G A) (t_metric : Int32) (t_fixed : Int32) (x2 : Int32) (n : Nat) (x : Int32 × Int32 × (Nat → Int32) × (Nat → Int32) × (Nat → Int32) × Int32) (hf : lp (fun k x => b_X6_draw_5 x2 k x.1 x.2.1 x.2.2.1 x.2.2.2.1 x.2.2.2.2.1 x.2.2.2.2.2) n x = some (z_t_facts, z_t_roundsOf, z_t_locked, z_t_stopCount)) {H : Heap} {locs : List Loc} {ls : Array Slot} (S : St G A s.heap H locs (w_X6_draw G a_t a_t_facts a_t_roundsOf a_t_locked a_t_rules a_t_sizes a_t_rows a_t_seen a_t_plan a_t_book x.2.2.2.2.2 t_metric t_fixed x.2.2.1 x.2.2.2.1 x.2.2.2.2.1)) (hl : lv_has ls 9 [(0, .ref a_t), (2, .int x2), (3, .int x.1), (4, .int x.2.1)]) : W p l e rm_X6_draw s m args below meth c H locs 0 0 (QV G below args s A (w_X6_draw G a_t a_t_facts a_t_roundsOf a_t_locked a_t_rules a_t_sizes a_t_rows a_t_seen a_t_plan a_t_book z_t_stopCount t_metric t_fixed z_t_facts z_t_roundsOf z_t_locked)) (F0 m 5 ls []) :=
  lp_ind (P := fun x => ∀ {H : Heap} {locs : List Loc} {ls : Array Slot}, St G A s.heap H locs (w_X6_draw G a_t a_t_facts a_t_roundsOf a_t_locked a_t_rules a_t_sizes a_t_rows a_t_seen a_t_plan a_t_book x.2.2.2.2.2 t_metric t_fixed x.2.2.1 x.2.2.2.1 x.2.2.2.2.1) → lv_has ls 9 [(0, .ref a_t), (2, .int x2), (3, .int x.1), (4, .int x.2.1)] → W p l e rm_X6_draw s m args below meth c H locs 0 0 (QV G below args s A (w_X6_draw G a_t a_t_facts a_t_roundsOf a_t_locked a_t_rules a_t_sizes a_t_rows a_t_seen a_t_plan a_t_book z_t_stopCount t_metric t_fixed z_t_facts z_t_roundsOf z_t_locked)) (F0 m 5 ls [])) (fun k hk x hf _ _ _ S hl => k_X6_draw_5 C x.2.2.2.2.2 t_metric t_fixed x.2.2.1 x.2.2.2.1 x.2.2.2.2.1 x2 x.1 x.2.1  k (fun x3' x4' t_facts' t_roundsOf' t_locked' t_stopCount'  h S hl => hk (x3', x4', t_facts', t_roundsOf', t_locked', t_stopCount') h S hl) hf S hl) n x hf S hl
set_option maxRecDepth 100000 in
set_option maxHeartbeats 4000000 in
theorem c_X6_draw (l : Launch) (G : GE) (a_t a_t_facts a_t_roundsOf a_t_locked a_t_rules a_t_sizes a_t_rows a_t_seen a_t_plan a_t_book : Nat) (t_stopCount : Int32) (t_metric : Int32) (t_fixed : Int32) (t_facts : Nat → Int32) (t_roundsOf : Nat → Int32) (t_locked : Nat → Int32) (x1 : Int32) (x2 : Int32) (z_t_facts : Nat → Int32) (z_t_roundsOf : Nat → Int32) (z_t_locked : Nat → Int32) (z_t_stopCount : Int32) (hf : f_X6_draw t_facts t_roundsOf t_locked t_stopCount x1 x2 = some (z_t_facts, z_t_roundsOf, z_t_locked, z_t_stopCount)) : CV l G yX6_draw kw_X6_draw rm_X6_draw [.ref a_t, .int x1, .int x2] (w_X6_draw G a_t a_t_facts a_t_roundsOf a_t_locked a_t_rules a_t_sizes a_t_rows a_t_seen a_t_plan a_t_book t_stopCount t_metric t_fixed t_facts t_roundsOf t_locked) (w_X6_draw G a_t a_t_facts a_t_roundsOf a_t_locked a_t_rules a_t_sizes a_t_rows a_t_seen a_t_plan a_t_book z_t_stopCount t_metric t_fixed z_t_facts z_t_roundsOf z_t_locked) := by
  refine en_V (cc := cX6_draw) (maxL := 9) (ret := none) (by decide +kernel) (Nat.le_of_ble_eq_true rfl) ?_
  intro p e s m args below meth c A ls C S hl
  have hl : lv_has ls 9 [(0, .ref a_t), (1, .int x1), (2, .int x2)] := hl
  have C : Cx p s m args meth c cX6_draw none 9 RX6 G A := C
  unfold f_X6_draw at hf
  have hx := C.1
  have hb := C.2.1
  have hown := C.2.2.2.2.1
  have hts := C.2.2.2.2.2.1
  have hN := C.2.2.2.2.2.2.2.2.2.2
  refine lv_iload_n (pc := 0) hx hb dX6_draw_0 rfl (lv_at hl 1 rfl) ?_
  refine lv_istore_n (pc := 1) (lv' := [(3, .int x1), (0, .ref a_t), (1, .int x1), (2, .int x2)]) hx hb dX6_draw_1 rfl hl (by decide) rfl (fun ls hl => ?_)
  refine lv_iconst (pc := 2) hx hb dX6_draw_2 ic_0 ?_
  refine lv_istore (pc := 3) (lv' := [(4, .int (0 : Int32)), (3, .int x1), (0, .ref a_t), (1, .int x1), (2, .int x2)]) hx hb dX6_draw_3 hl (by decide) rfl (fun ls hl => ?_)
  exact h_X6_draw_5 C (t_metric) (t_fixed) (x2) fu (x1, (0 : Int32), t_facts, t_roundsOf, t_locked, t_stopCount) hf S (lv_sub hl [2, 4, 1, 0] rfl)
end
abbrev rm_X6_dueAhead : Room := { frames := 1, cells := 0, slots := 0, locals := 23 }
abbrev kw_X6_dueAhead : Cond := .code yX6_dueAhead cX6_dueAhead 5 (some .int)
abbrev w_X6_dueAhead (G : GE) (a_t a_t_facts a_t_roundsOf a_t_locked a_t_rules a_t_sizes a_t_rows a_t_seen a_t_plan a_t_book : Nat) (t_stopCount : Int32) (t_metric : Int32) (t_fixed : Int32) (t_facts : Nat → Int32) : va_W := [(a_t, ob 6 [.ref a_t_facts, .ref a_t_roundsOf, .ref a_t_locked, .ref a_t_rules, .ref a_t_sizes, .ref a_t_rows, .ref a_t_seen, .ref a_t_plan, .ref a_t_book, .int t_stopCount, .int t_metric, .int t_fixed]), (a_t_facts, aI G 102 t_facts)]
theorem u_X6_dueAhead_X6_fact_85 {s : State} {args : Array Value} (hts : ∀ w ∈ WU, w.before args s = true) : CallW rm_X6_dueAhead s args RX6 RX6 85 yX6_fact cX6_fact 4 (some .int) (kw_X6_fact :: WU) rm_X6_fact 0 0 2 := cwV 2 hts (gV qm_6_85 qi_X6_fact ql_X6_fact qn_6 qc_X6_fact) rfl rfl rfl (by decide +kernel) ⟨Nat.le_of_ble_eq_true rfl, Nat.le_of_ble_eq_true rfl⟩
section
variable {p : Program} {l : Launch} {e : Env} {s : State} {m : MethodId} {args : Array Value} {below : List Frame} {meth : Method} {c : Code} {A : Nat → Prop} {G : GE} {a_t a_t_facts a_t_roundsOf a_t_locked a_t_rules a_t_sizes a_t_rows a_t_seen a_t_plan a_t_book : Nat} {r : Int32}
set_option maxRecDepth 100000 in
set_option maxHeartbeats 4000000 in
theorem k_X6_dueAhead_57 (C : Cx p s m args meth c cX6_dueAhead (some .int) 5 RX6 G A) (t_stopCount : Int32) (t_metric : Int32) (t_fixed : Int32) (t_facts : Nat → Int32) (x1 : Int32) (x2 : Int32) (x3 : Int32) (x4 : Int32) (k4 : Int32 × Int32 → Option (Int32)) (hk4 : ∀ {H : Heap} {locs : List Loc} {ls : Array Slot} (x2' : Int32) (x3' : Int32), k4 (x2', x3') = some r → St G A s.heap H locs (w_X6_dueAhead G a_t a_t_facts a_t_roundsOf a_t_locked a_t_rules a_t_sizes a_t_rows a_t_seen a_t_plan a_t_book t_stopCount t_metric t_fixed t_facts) → lv_has ls 5 [(0, .ref a_t), (1, .int x1), (2, .int x2'), (3, .int x3')] → W p l e rm_X6_dueAhead s m args below meth c H locs 0 0 (QI G below args s A r (w_X6_dueAhead G a_t a_t_facts a_t_roundsOf a_t_locked a_t_rules a_t_sizes a_t_rows a_t_seen a_t_plan a_t_book t_stopCount t_metric t_fixed t_facts)) (F0 m 4 ls [])) {H : Heap} {locs : List Loc} {ls : Array Slot} (hf : b_X6_dueAhead_57 k4 x1 x2 x3 x4 t_facts t_stopCount = some r) (S : St G A s.heap H locs (w_X6_dueAhead G a_t a_t_facts a_t_roundsOf a_t_locked a_t_rules a_t_sizes a_t_rows a_t_seen a_t_plan a_t_book t_stopCount t_metric t_fixed t_facts)) (hl : lv_has ls 5 [(0, .ref a_t), (1, .int x1), (2, .int x2), (3, .int x3), (4, .int x4)]) : W p l e rm_X6_dueAhead s m args below meth c H locs 0 0 (QI G below args s A r (w_X6_dueAhead G a_t a_t_facts a_t_roundsOf a_t_locked a_t_rules a_t_sizes a_t_rows a_t_seen a_t_plan a_t_book t_stopCount t_metric t_fixed t_facts)) (F0 m 57 ls []) := by
  unfold b_X6_dueAhead_57 at hf
  have hx := C.1
  have hb := C.2.1
  have hown := C.2.2.2.2.1
  have hts := C.2.2.2.2.2.1
  have hN := C.2.2.2.2.2.2.2.2.2.2
  refine lv_iload_n (pc := 57) hx hb dX6_dueAhead_57 rfl (lv_at hl 2 rfl) ?_
  refine lv_iload (pc := 58) hx hb dX6_dueAhead_58 (lv_at hl 4 rfl) ?_
  refine lv_if_ge (tgt := 67) (pc := 60) hx hb dX6_dueAhead_60 (by decide) (fun c1 => ?_) (fun c1 => ?_)
  · have hf := ifp c1 hf
    refine lv_iconst (pc := 67) hx hb dX6_dueAhead_67 ic_0 ?_
    refine lv_iadd (pc := 68) hx hb dX6_dueAhead_68 ?_
    refine lv_istore_n (pc := 69) (lv' := [(2, .int (x2 + (0 : Int32))), (0, .ref a_t), (1, .int x1), (3, .int x3), (4, .int x4)]) hx hb dX6_dueAhead_69 rfl hl (by decide) rfl (fun ls hl => ?_)
    refine lv_iinc (pc := 70) (v := (x3 + (1 : Int32))) (lv' := [(3, .int (x3 + (1 : Int32))), (2, .int (x2 + (0 : Int32))), (0, .ref a_t), (1, .int x1), (4, .int x4)]) hx hb dX6_dueAhead_70 hl (k := 3) rfl (congrArg (fun z => x3 + z) ic_1) (by decide) rfl (fun ls hl => ?_)
    refine lv_goto (tgt := 4) (pc := 73) hx hb dX6_dueAhead_73 (by decide) ?_
    exact hk4 ((x2 + (0 : Int32))) ((x3 + (1 : Int32)))  hf S (lv_sub hl [2, 3, 1, 0] rfl)
  · have hf := ifn c1 hf
    refine lv_iconst (pc := 63) hx hb dX6_dueAhead_63 ic_1 ?_
    refine lv_goto (tgt := 68) (pc := 64) hx hb dX6_dueAhead_64 (by decide) ?_
    refine lv_iadd (pc := 68) hx hb dX6_dueAhead_68 ?_
    refine lv_istore_n (pc := 69) (lv' := [(2, .int (x2 + (1 : Int32))), (0, .ref a_t), (1, .int x1), (3, .int x3), (4, .int x4)]) hx hb dX6_dueAhead_69 rfl hl (by decide) rfl (fun ls hl => ?_)
    refine lv_iinc (pc := 70) (v := (x3 + (1 : Int32))) (lv' := [(3, .int (x3 + (1 : Int32))), (2, .int (x2 + (1 : Int32))), (0, .ref a_t), (1, .int x1), (4, .int x4)]) hx hb dX6_dueAhead_70 hl (k := 3) rfl (congrArg (fun z => x3 + z) ic_1) (by decide) rfl (fun ls hl => ?_)
    refine lv_goto (tgt := 4) (pc := 73) hx hb dX6_dueAhead_73 (by decide) ?_
    exact hk4 ((x2 + (1 : Int32))) ((x3 + (1 : Int32)))  hf S (lv_sub hl [2, 3, 1, 0] rfl)
set_option maxRecDepth 100000 in
set_option maxHeartbeats 4000000 in
theorem k_X6_dueAhead_47 (C : Cx p s m args meth c cX6_dueAhead (some .int) 5 RX6 G A) (t_stopCount : Int32) (t_metric : Int32) (t_fixed : Int32) (t_facts : Nat → Int32) (x1 : Int32) (x2 : Int32) (x3 : Int32) (x4 : Int32) (k4 : Int32 × Int32 → Option (Int32)) (hk4 : ∀ {H : Heap} {locs : List Loc} {ls : Array Slot} (x2' : Int32) (x3' : Int32), k4 (x2', x3') = some r → St G A s.heap H locs (w_X6_dueAhead G a_t a_t_facts a_t_roundsOf a_t_locked a_t_rules a_t_sizes a_t_rows a_t_seen a_t_plan a_t_book t_stopCount t_metric t_fixed t_facts) → lv_has ls 5 [(0, .ref a_t), (1, .int x1), (2, .int x2'), (3, .int x3')] → W p l e rm_X6_dueAhead s m args below meth c H locs 0 0 (QI G below args s A r (w_X6_dueAhead G a_t a_t_facts a_t_roundsOf a_t_locked a_t_rules a_t_sizes a_t_rows a_t_seen a_t_plan a_t_book t_stopCount t_metric t_fixed t_facts)) (F0 m 4 ls [])) {H : Heap} {locs : List Loc} {ls : Array Slot} (hf : b_X6_dueAhead_47 k4 x1 x2 x3 x4 t_facts t_stopCount = some r) (S : St G A s.heap H locs (w_X6_dueAhead G a_t a_t_facts a_t_roundsOf a_t_locked a_t_rules a_t_sizes a_t_rows a_t_seen a_t_plan a_t_book t_stopCount t_metric t_fixed t_facts)) (hl : lv_has ls 5 [(0, .ref a_t), (1, .int x1), (2, .int x2), (3, .int x3), (4, .int x4)]) : W p l e rm_X6_dueAhead s m args below meth c H locs 0 0 (QI G below args s A r (w_X6_dueAhead G a_t a_t_facts a_t_roundsOf a_t_locked a_t_rules a_t_sizes a_t_rows a_t_seen a_t_plan a_t_book t_stopCount t_metric t_fixed t_facts)) (F0 m 47 ls []) := by
  unfold b_X6_dueAhead_47 at hf
  have hx := C.1
  have hb := C.2.1
  have hown := C.2.2.2.2.1
  have hts := C.2.2.2.2.2.1
  have hN := C.2.2.2.2.2.2.2.2.2.2
  refine lv_iload (pc := 47) hx hb dX6_dueAhead_47 (lv_at hl 4 rfl) ?_
  refine lv_if_ne (tgt := 57) (pc := 49) hx hb dX6_dueAhead_49 (by decide) (fun c1 => ?_) (fun c1 => ?_)
  · have hf := ifn c1 hf
    exact k_X6_dueAhead_57 C (t_stopCount) (t_metric) (t_fixed) (t_facts) (x1) (x2) (x3) (x4) k4 hk4 hf S (lv_sub hl [0, 1, 2, 3, 4] rfl)
  · have hf := ifp c1 hf
    refine lv_iload_n (pc := 52) hx hb dX6_dueAhead_52 rfl (lv_at hl 3 rfl) ?_
    refine lv_iload_n (pc := 53) hx hb dX6_dueAhead_53 rfl (lv_at hl 1 rfl) ?_
    refine lv_isub (pc := 54) hx hb dX6_dueAhead_54 ?_
    refine lv_istore (pc := 55) (lv' := [(4, .int (x3 - x1)), (0, .ref a_t), (1, .int x1), (2, .int x2), (3, .int x3)]) hx hb dX6_dueAhead_55 hl (by decide) rfl (fun ls hl => ?_)
    exact k_X6_dueAhead_57 C (t_stopCount) (t_metric) (t_fixed) (t_facts) (x1) (x2) (x3) ((x3 - x1)) k4 hk4 hf S (lv_sub hl [1, 2, 3, 4, 0] rfl)
set_option maxRecDepth 100000 in
set_option maxHeartbeats 4000000 in
theorem k_X6_dueAhead_4 (C : Cx p s m args meth c cX6_dueAhead (some .int) 5 RX6 G A) (t_stopCount : Int32) (t_metric : Int32) (t_fixed : Int32) (t_facts : Nat → Int32) (x1 : Int32) (x2 : Int32) (x3 : Int32) (k4 : Int32 × Int32 → Option (Int32)) (hk4 : ∀ {H : Heap} {locs : List Loc} {ls : Array Slot} (x2' : Int32) (x3' : Int32), k4 (x2', x3') = some r → St G A s.heap H locs (w_X6_dueAhead G a_t a_t_facts a_t_roundsOf a_t_locked a_t_rules a_t_sizes a_t_rows a_t_seen a_t_plan a_t_book t_stopCount t_metric t_fixed t_facts) → lv_has ls 5 [(0, .ref a_t), (1, .int x1), (2, .int x2'), (3, .int x3')] → W p l e rm_X6_dueAhead s m args below meth c H locs 0 0 (QI G below args s A r (w_X6_dueAhead G a_t a_t_facts a_t_roundsOf a_t_locked a_t_rules a_t_sizes a_t_rows a_t_seen a_t_plan a_t_book t_stopCount t_metric t_fixed t_facts)) (F0 m 4 ls [])) {H : Heap} {locs : List Loc} {ls : Array Slot} (hf : b_X6_dueAhead_4 x1 t_facts t_stopCount k4 x2 x3 = some r) (S : St G A s.heap H locs (w_X6_dueAhead G a_t a_t_facts a_t_roundsOf a_t_locked a_t_rules a_t_sizes a_t_rows a_t_seen a_t_plan a_t_book t_stopCount t_metric t_fixed t_facts)) (hl : lv_has ls 5 [(0, .ref a_t), (1, .int x1), (2, .int x2), (3, .int x3)]) : W p l e rm_X6_dueAhead s m args below meth c H locs 0 0 (QI G below args s A r (w_X6_dueAhead G a_t a_t_facts a_t_roundsOf a_t_locked a_t_rules a_t_sizes a_t_rows a_t_seen a_t_plan a_t_book t_stopCount t_metric t_fixed t_facts)) (F0 m 4 ls []) := by
  unfold b_X6_dueAhead_4 at hf
  have hx := C.1
  have hb := C.2.1
  have hown := C.2.2.2.2.1
  have hts := C.2.2.2.2.2.1
  have hN := C.2.2.2.2.2.2.2.2.2.2
  refine lv_iload_n (pc := 4) hx hb dX6_dueAhead_4 rfl (lv_at hl 3 rfl) ?_
  refine lv_aload_n (pc := 5) hx hb dX6_dueAhead_5 rfl (lv_at hl 0 rfl) ?_
  refine x_get (pc := 6) (ci := 6) (T := TX6) (v := .int t_stopCount) C S 0 rfl rfl inlX6 9 (by decide) rfl qf_6_60 rfl dX6_dueAhead_6 ?_
  refine lv_icmp_ge (tgt := 76) (pc := 9) hx hb dX6_dueAhead_9 (by decide) (fun c1 => ?_) (fun c1 => ?_)
  · have hf := ifp c1 hf
    refine lv_iload_n (pc := 76) hx hb dX6_dueAhead_76 rfl (lv_at hl 2 rfl) ?_
    cases hf
    exact x_iret (pc := 77) C S dX6_dueAhead_77
  · have hf := ifn c1 hf
    refine lv_aload_n (pc := 12) hx hb dX6_dueAhead_12 rfl (lv_at hl 0 rfl) ?_
    refine lv_iload_n (pc := 13) hx hb dX6_dueAhead_13 rfl (lv_at hl 3 rfl) ?_
    refine lv_iconst (pc := 14) hx hb dX6_dueAhead_14 ic_4 ?_
    obtain ⟨r2, hq2, hf⟩ := bd_e hf
    refine x_vI (pc := 15) (As := [.int x3, .int (4 : Int32)]) (rest := []) (isC := [0, 1]) (ws' := (w_X6_dueAhead G a_t a_t_facts a_t_roundsOf a_t_locked a_t_rules a_t_sizes a_t_rows a_t_seen a_t_plan a_t_book t_stopCount t_metric t_fixed t_facts)) C S (c_X6_fact l G a_t a_t_facts a_t_roundsOf a_t_locked a_t_rules a_t_sizes a_t_rows a_t_seen a_t_plan a_t_book t_stopCount t_metric t_fixed t_facts x3 (4 : Int32) r2 hq2) (u_X6_dueAhead_X6_fact_85 hts) (ci := 6) rfl 0 rfl rfl rfl rfl rfl rfl hl.1 rfl (Nat.le_of_ble_eq_true rfl) dX6_dueAhead_15 (fun H locs S => ?_)
    refine lv_aload_n (pc := 18) hx hb dX6_dueAhead_18 rfl (lv_at hl 0 rfl) ?_
    refine lv_iload_n (pc := 19) hx hb dX6_dueAhead_19 rfl (lv_at hl 1 rfl) ?_
    refine lv_iconst (pc := 20) hx hb dX6_dueAhead_20 ic_4 ?_
    obtain ⟨r3, hq3, hf⟩ := bd_e hf
    refine x_vI (pc := 21) (As := [.int x1, .int (4 : Int32)]) (rest := [.int r2]) (isC := [0, 1]) (ws' := (w_X6_dueAhead G a_t a_t_facts a_t_roundsOf a_t_locked a_t_rules a_t_sizes a_t_rows a_t_seen a_t_plan a_t_book t_stopCount t_metric t_fixed t_facts)) C S (c_X6_fact l G a_t a_t_facts a_t_roundsOf a_t_locked a_t_rules a_t_sizes a_t_rows a_t_seen a_t_plan a_t_book t_stopCount t_metric t_fixed t_facts x1 (4 : Int32) r3 hq3) (u_X6_dueAhead_X6_fact_85 hts) (ci := 6) rfl 0 rfl rfl rfl rfl rfl rfl hl.1 rfl (Nat.le_of_ble_eq_true rfl) dX6_dueAhead_21 (fun H locs S => ?_)
    refine lv_isub (pc := 24) hx hb dX6_dueAhead_24 ?_
    refine lv_istore (pc := 25) (lv' := [(4, .int (r2 - r3)), (0, .ref a_t), (1, .int x1), (2, .int x2), (3, .int x3)]) hx hb dX6_dueAhead_25 hl (by decide) rfl (fun ls hl => ?_)
    refine lv_iload (pc := 27) hx hb dX6_dueAhead_27 (lv_at hl 0 rfl) ?_
    refine lv_if_ne (tgt := 47) (pc := 29) hx hb dX6_dueAhead_29 (by decide) (fun c4 => ?_) (fun c4 => ?_)
    · have hf := ifn c4 hf
      exact k_X6_dueAhead_47 C (t_stopCount) (t_metric) (t_fixed) (t_facts) (x1) (x2) (x3) ((r2 - r3)) k4 hk4 hf S (lv_sub hl [1, 2, 3, 4, 0] rfl)
    · have hf := ifp c4 hf
      refine lv_aload_n (pc := 32) hx hb dX6_dueAhead_32 rfl (lv_at hl 1 rfl) ?_
      refine lv_iload_n (pc := 33) hx hb dX6_dueAhead_33 rfl (lv_at hl 4 rfl) ?_
      refine lv_iconst (pc := 34) hx hb dX6_dueAhead_34 ic_3 ?_
      obtain ⟨r5, hq5, hf⟩ := bd_e hf
      refine x_vI (pc := 35) (As := [.int x3, .int (3 : Int32)]) (rest := []) (isC := [0, 1]) (ws' := (w_X6_dueAhead G a_t a_t_facts a_t_roundsOf a_t_locked a_t_rules a_t_sizes a_t_rows a_t_seen a_t_plan a_t_book t_stopCount t_metric t_fixed t_facts)) C S (c_X6_fact l G a_t a_t_facts a_t_roundsOf a_t_locked a_t_rules a_t_sizes a_t_rows a_t_seen a_t_plan a_t_book t_stopCount t_metric t_fixed t_facts x3 (3 : Int32) r5 hq5) (u_X6_dueAhead_X6_fact_85 hts) (ci := 6) rfl 0 rfl rfl rfl rfl rfl rfl hl.1 rfl (Nat.le_of_ble_eq_true rfl) dX6_dueAhead_35 (fun H locs S => ?_)
      refine lv_aload_n (pc := 38) hx hb dX6_dueAhead_38 rfl (lv_at hl 1 rfl) ?_
      refine lv_iload_n (pc := 39) hx hb dX6_dueAhead_39 rfl (lv_at hl 2 rfl) ?_
      refine lv_iconst (pc := 40) hx hb dX6_dueAhead_40 ic_3 ?_
      obtain ⟨r6, hq6, hf⟩ := bd_e hf
      refine x_vI (pc := 41) (As := [.int x1, .int (3 : Int32)]) (rest := [.int r5]) (isC := [0, 1]) (ws' := (w_X6_dueAhead G a_t a_t_facts a_t_roundsOf a_t_locked a_t_rules a_t_sizes a_t_rows a_t_seen a_t_plan a_t_book t_stopCount t_metric t_fixed t_facts)) C S (c_X6_fact l G a_t a_t_facts a_t_roundsOf a_t_locked a_t_rules a_t_sizes a_t_rows a_t_seen a_t_plan a_t_book t_stopCount t_metric t_fixed t_facts x1 (3 : Int32) r6 hq6) (u_X6_dueAhead_X6_fact_85 hts) (ci := 6) rfl 0 rfl rfl rfl rfl rfl rfl hl.1 rfl (Nat.le_of_ble_eq_true rfl) dX6_dueAhead_41 (fun H locs S => ?_)
      refine lv_isub (pc := 44) hx hb dX6_dueAhead_44 ?_
      refine lv_istore (pc := 45) (lv' := [(4, .int (r5 - r6)), (0, .ref a_t), (1, .int x1), (2, .int x2), (3, .int x3)]) hx hb dX6_dueAhead_45 hl (by decide) rfl (fun ls hl => ?_)
      exact k_X6_dueAhead_47 C (t_stopCount) (t_metric) (t_fixed) (t_facts) (x1) (x2) (x3) ((r5 - r6)) k4 hk4 hf S (lv_sub hl [1, 2, 3, 4, 0] rfl)
set_option maxRecDepth 100000 in
set_option maxHeartbeats 4000000 in
theorem h_X6_dueAhead_4 (C : Cx p s m args meth c cX6_dueAhead (some .int) 5 RX6 G A) (t_stopCount : Int32) (t_metric : Int32) (t_fixed : Int32) (t_facts : Nat → Int32) (x1 : Int32) (n : Nat) (x : Int32 × Int32) (hf : lp (fun k x => b_X6_dueAhead_4 x1 t_facts t_stopCount k x.1 x.2) n x = some r) {H : Heap} {locs : List Loc} {ls : Array Slot} (S : St G A s.heap H locs (w_X6_dueAhead G a_t a_t_facts a_t_roundsOf a_t_locked a_t_rules a_t_sizes a_t_rows a_t_seen a_t_plan a_t_book t_stopCount t_metric t_fixed t_facts)) (hl : lv_has ls 5 [(0, .ref a_t), (1, .int x1), (2, .int x.1), (3, .int x.2)]) : W p l e rm_X6_dueAhead s m args below meth c H locs 0 0 (QI G below args s A r (w_X6_dueAhead G a_t a_t_facts a_t_roundsOf a_t_locked a_t_rules a_t_sizes a_t_rows a_t_seen a_t_plan a_t_book t_stopCount t_metric t_fixed t_facts)) (F0 m 4 ls []) :=
  lp_ind (P := fun x => ∀ {H : Heap} {locs : List Loc} {ls : Array Slot}, St G A s.heap H locs (w_X6_dueAhead G a_t a_t_facts a_t_roundsOf a_t_locked a_t_rules a_t_sizes a_t_rows a_t_seen a_t_plan a_t_book t_stopCount t_metric t_fixed t_facts) → lv_has ls 5 [(0, .ref a_t), (1, .int x1), (2, .int x.1), (3, .int x.2)] → W p l e rm_X6_dueAhead s m args below meth c H locs 0 0 (QI G below args s A r (w_X6_dueAhead G a_t a_t_facts a_t_roundsOf a_t_locked a_t_rules a_t_sizes a_t_rows a_t_seen a_t_plan a_t_book t_stopCount t_metric t_fixed t_facts)) (F0 m 4 ls [])) (fun k hk x hf _ _ _ S hl => k_X6_dueAhead_4 C t_stopCount t_metric t_fixed t_facts x1 x.1 x.2  k (fun x2' x3'  h S hl => hk (x2', x3') h S hl) hf S hl) n x hf S hl
set_option maxRecDepth 100000 in
set_option maxHeartbeats 4000000 in
theorem c_X6_dueAhead (l : Launch) (G : GE) (a_t a_t_facts a_t_roundsOf a_t_locked a_t_rules a_t_sizes a_t_rows a_t_seen a_t_plan a_t_book : Nat) (t_stopCount : Int32) (t_metric : Int32) (t_fixed : Int32) (t_facts : Nat → Int32) (x1 : Int32) (r : Int32) (hf : f_X6_dueAhead t_facts t_stopCount x1 = some r) : CI l G yX6_dueAhead kw_X6_dueAhead rm_X6_dueAhead [.ref a_t, .int x1] (w_X6_dueAhead G a_t a_t_facts a_t_roundsOf a_t_locked a_t_rules a_t_sizes a_t_rows a_t_seen a_t_plan a_t_book t_stopCount t_metric t_fixed t_facts) r (w_X6_dueAhead G a_t a_t_facts a_t_roundsOf a_t_locked a_t_rules a_t_sizes a_t_rows a_t_seen a_t_plan a_t_book t_stopCount t_metric t_fixed t_facts) := by
  refine en_I (cc := cX6_dueAhead) (maxL := 5) (ret := (some .int)) (by decide +kernel) (Nat.le_of_ble_eq_true rfl) ?_
  intro p e s m args below meth c A ls C S hl
  have hl : lv_has ls 5 [(0, .ref a_t), (1, .int x1)] := hl
  have C : Cx p s m args meth c cX6_dueAhead (some .int) 5 RX6 G A := C
  unfold f_X6_dueAhead at hf
  have hx := C.1
  have hb := C.2.1
  have hown := C.2.2.2.2.1
  have hts := C.2.2.2.2.2.1
  have hN := C.2.2.2.2.2.2.2.2.2.2
  refine lv_iconst (pc := 0) hx hb dX6_dueAhead_0 ic_0 ?_
  refine lv_istore_n (pc := 1) (lv' := [(2, .int (0 : Int32)), (0, .ref a_t), (1, .int x1)]) hx hb dX6_dueAhead_1 rfl hl (by decide) rfl (fun ls hl => ?_)
  refine lv_iconst (pc := 2) hx hb dX6_dueAhead_2 ic_0 ?_
  refine lv_istore_n (pc := 3) (lv' := [(3, .int (0 : Int32)), (2, .int (0 : Int32)), (0, .ref a_t), (1, .int x1)]) hx hb dX6_dueAhead_3 rfl hl (by decide) rfl (fun ls hl => ?_)
  exact h_X6_dueAhead_4 C (t_stopCount) (t_metric) (t_fixed) (t_facts) (x1) fu ((0 : Int32), (0 : Int32)) hf S (lv_sub hl [2, 3, 1, 0] rfl)
end
