abbrev rm_X4_parse : Room := { frames := 4, cells := 0, slots := 0, locals := 86 }
abbrev kw_X4_parse : Cond := .code yX4_parse cX4_parse 2 (some .int)
abbrev w_X4_parse (G : GE) (a_t a_t_signs a_t_facts : Nat) (t_size : Int32) (t_clauses : Int32) (t_next : Int32) (t_fault : Int32) (t_signs : Nat → Int32) (t_facts : Nat → Int32) : va_W := [(a_t, ob 4 [.ref a_t_signs, .ref a_t_facts, .int t_size, .int t_clauses, .int t_next, .int t_fault]), (a_t_signs, aI G 100 t_signs), (a_t_facts, aI G 36 t_facts)]
theorem u_X4_parse_X4_parseClause_31 {s : State} {args : Array Value} (hts : ∀ w ∈ WU, w.before args s = true) : CallW rm_X4_parse s args RX4 RX4 31 yX4_parseClause cX4_parseClause 5 none (kw_X4_parseClause :: WU) rm_X4_parseClause 0 0 1 := cwV 1 hts (gV qm_4_31 qi_X4_parseClause ql_X4_parseClause qn_4 qc_X4_parseClause) rfl rfl rfl (by decide +kernel) ⟨Nat.le_of_ble_eq_true rfl, Nat.le_of_ble_eq_true rfl⟩
theorem u_X4_parse_X4_skip_35 {s : State} {args : Array Value} (hts : ∀ w ∈ WU, w.before args s = true) : CallW rm_X4_parse s args RX4 RX4 35 yX4_skip cX4_skip 2 (some .boolean) (kw_X4_skip :: WU) rm_X4_skip 0 0 1 := cwV 1 hts (gV qm_4_35 qi_X4_skip ql_X4_skip qn_4 qc_X4_skip) rfl rfl rfl (by decide +kernel) ⟨Nat.le_of_ble_eq_true rfl, Nat.le_of_ble_eq_true rfl⟩
section
variable {p : Program} {l : Launch} {e : Env} {s : State} {m : MethodId} {args : Array Value} {below : List Frame} {meth : Method} {c : Code} {A : Nat → Prop} {G : GE} {a_t a_t_signs a_t_facts : Nat} {r : Int32} {z_t_facts : Nat → Int32} {z_t_clauses : Int32} {z_t_next : Int32} {z_t_fault : Int32}
set_option maxRecDepth 100000 in
set_option maxHeartbeats 4000000 in
theorem k_X4_parse_76 (C : Cx p s m args meth c cX4_parse (some .int) 2 RX4 G A) (t_size : Int32) (t_clauses : Int32) (t_next : Int32) (t_fault : Int32) (t_signs : Nat → Int32) (t_facts : Nat → Int32) {H : Heap} {locs : List Loc} {ls : Array Slot} (hf : b_X4_parse_76 t_facts t_size t_clauses t_next t_fault = some (r, z_t_facts, z_t_clauses, z_t_next, z_t_fault)) (S : St G A s.heap H locs (w_X4_parse G a_t a_t_signs a_t_facts t_size t_clauses t_next t_fault t_signs t_facts)) (hl : lv_has ls 2 [(0, .ref a_t)]) : W p l e rm_X4_parse s m args below meth c H locs 0 0 (QI G below args s A r (w_X4_parse G a_t a_t_signs a_t_facts t_size z_t_clauses z_t_next z_t_fault t_signs z_t_facts)) (F0 m 76 ls []) := by
  unfold b_X4_parse_76 at hf
  have hx := C.1
  have hb := C.2.1
  have hown := C.2.2.2.2.1
  have hts := C.2.2.2.2.2.1
  have hN := C.2.2.2.2.2.2.2.2.2.2
  refine lv_aload_n (pc := 76) hx hb dX4_parse_76 rfl (lv_at hl 0 rfl) ?_
  refine x_get (pc := 77) (ci := 4) (T := TX4) (v := .int t_fault) C S 0 rfl rfl inlX4 5 (by decide) rfl qf_4_25 rfl dX4_parse_77 ?_
  refine lv_if_ge (tgt := 102) (pc := 80) hx hb dX4_parse_80 (by decide) (fun c1 => ?_) (fun c1 => ?_)
  · have hf := ifp c1 hf
    refine lv_aload_n (pc := 102) hx hb dX4_parse_102 rfl (lv_at hl 0 rfl) ?_
    refine x_get (pc := 103) (ci := 4) (T := TX4) (v := .int t_fault) C S 0 rfl rfl inlX4 5 (by decide) rfl qf_4_25 rfl dX4_parse_103 ?_
    cases hf
    exact x_iret (pc := 106) C S dX4_parse_106
  · have hf := ifn c1 hf
    refine lv_aload_n (pc := 83) hx hb dX4_parse_83 rfl (lv_at hl 0 rfl) ?_
    refine x_get (pc := 84) (ci := 4) (T := TX4) (v := .int t_next) C S 0 rfl rfl inlX4 4 (by decide) rfl qf_4_22 rfl dX4_parse_84 ?_
    refine lv_aload_n (pc := 87) hx hb dX4_parse_87 rfl (lv_at hl 0 rfl) ?_
    refine x_get (pc := 88) (ci := 4) (T := TX4) (v := .int t_size) C S 0 rfl rfl inlX4 2 (by decide) rfl qf_4_18 rfl dX4_parse_88 ?_
    refine lv_icmp_ge (tgt := 102) (pc := 91) hx hb dX4_parse_91 (by decide) (fun c2 => ?_) (fun c2 => ?_)
    · have hf := ifp c2 hf
      refine lv_aload_n (pc := 102) hx hb dX4_parse_102 rfl (lv_at hl 0 rfl) ?_
      refine x_get (pc := 103) (ci := 4) (T := TX4) (v := .int t_fault) C S 0 rfl rfl inlX4 5 (by decide) rfl qf_4_25 rfl dX4_parse_103 ?_
      cases hf
      exact x_iret (pc := 106) C S dX4_parse_106
    · have hf := ifn c2 hf
      refine lv_aload_n (pc := 94) hx hb dX4_parse_94 rfl (lv_at hl 0 rfl) ?_
      refine lv_aload_n (pc := 95) hx hb dX4_parse_95 rfl (lv_at hl 0 rfl) ?_
      refine x_get (pc := 96) (ci := 4) (T := TX4) (v := .int t_next) C S 0 rfl rfl inlX4 4 (by decide) rfl qf_4_22 rfl dX4_parse_96 ?_
      refine x_put (pc := 99) (ci := 4) (T := TX4) (ws' := (w_X4_parse G a_t a_t_signs a_t_facts t_size t_clauses t_next t_next t_signs t_facts)) C S tyX4 tyX4_ok nmX4 0 rfl rfl inlX4 5 (by decide) rfl qf_4_25 rfl rfl rfl rfl (Nat.le_of_ble_eq_true rfl) rfl dX4_parse_99 (fun H locs S => ?_)
      refine lv_aload_n (pc := 102) hx hb dX4_parse_102 rfl (lv_at hl 0 rfl) ?_
      refine x_get (pc := 103) (ci := 4) (T := TX4) (v := .int t_next) C S 0 rfl rfl inlX4 5 (by decide) rfl qf_4_25 rfl dX4_parse_103 ?_
      cases hf
      exact x_iret (pc := 106) C S dX4_parse_106
set_option maxRecDepth 100000 in
set_option maxHeartbeats 4000000 in
theorem k_X4_parse_18 (C : Cx p s m args meth c cX4_parse (some .int) 2 RX4 G A) (t_size : Int32) (t_clauses : Int32) (t_next : Int32) (t_fault : Int32) (t_signs : Nat → Int32) (t_facts : Nat → Int32) (x1 : Int32) (k18 : Int32 × (Nat → Int32) × Int32 × Int32 × Int32 → Option (Int32 × (Nat → Int32) × Int32 × Int32 × Int32)) (hk18 : ∀ {H : Heap} {locs : List Loc} {ls : Array Slot} (x1' : Int32) (t_facts' : Nat → Int32) (t_clauses' : Int32) (t_next' : Int32) (t_fault' : Int32), k18 (x1', t_facts', t_clauses', t_next', t_fault') = some (r, z_t_facts, z_t_clauses, z_t_next, z_t_fault) → St G A s.heap H locs (w_X4_parse G a_t a_t_signs a_t_facts t_size t_clauses' t_next' t_fault' t_signs t_facts') → lv_has ls 2 [(0, .ref a_t), (1, .int x1')] → W p l e rm_X4_parse s m args below meth c H locs 0 0 (QI G below args s A r (w_X4_parse G a_t a_t_signs a_t_facts t_size z_t_clauses z_t_next z_t_fault t_signs z_t_facts)) (F0 m 18 ls [])) {H : Heap} {locs : List Loc} {ls : Array Slot} (hf : b_X4_parse_18 t_signs t_size k18 x1 t_facts t_clauses t_next t_fault = some (r, z_t_facts, z_t_clauses, z_t_next, z_t_fault)) (S : St G A s.heap H locs (w_X4_parse G a_t a_t_signs a_t_facts t_size t_clauses t_next t_fault t_signs t_facts)) (hl : lv_has ls 2 [(0, .ref a_t), (1, .int x1)]) : W p l e rm_X4_parse s m args below meth c H locs 0 0 (QI G below args s A r (w_X4_parse G a_t a_t_signs a_t_facts t_size z_t_clauses z_t_next z_t_fault t_signs z_t_facts)) (F0 m 18 ls []) := by
  unfold b_X4_parse_18 at hf
  have hx := C.1
  have hb := C.2.1
  have hown := C.2.2.2.2.1
  have hts := C.2.2.2.2.2.1
  have hN := C.2.2.2.2.2.2.2.2.2.2
  refine lv_iload_n (pc := 18) hx hb dX4_parse_18 rfl (lv_at hl 1 rfl) ?_
  refine lv_if_eq (tgt := 76) (pc := 19) hx hb dX4_parse_19 (by decide) (fun c1 => ?_) (fun c1 => ?_)
  · have hf := ifp c1 hf
    exact k_X4_parse_76 C (t_size) (t_clauses) (t_next) (t_fault) (t_signs) (t_facts) hf S (lv_sub hl [0] rfl)
  · have hf := ifn c1 hf
    refine lv_aload_n (pc := 22) hx hb dX4_parse_22 rfl (lv_at hl 0 rfl) ?_
    refine x_get (pc := 23) (ci := 4) (T := TX4) (v := .int t_clauses) C S 0 rfl rfl inlX4 3 (by decide) rfl qf_4_28 rfl dX4_parse_23 ?_
    refine lv_bipush (pc := 26) hx hb dX4_parse_26 bc_6 ?_
    refine lv_icmp_ge (tgt := 76) (pc := 28) hx hb dX4_parse_28 (by decide) (fun c2 => ?_) (fun c2 => ?_)
    · have hf := ifp c2 hf
      exact k_X4_parse_76 C (t_size) (t_clauses) (t_next) (t_fault) (t_signs) (t_facts) hf S (lv_sub hl [0] rfl)
    · have hf := ifn c2 hf
      refine lv_aload_n (pc := 31) hx hb dX4_parse_31 rfl (lv_at hl 0 rfl) ?_
      refine lv_aload_n (pc := 32) hx hb dX4_parse_32 rfl (lv_at hl 0 rfl) ?_
      refine x_get (pc := 33) (ci := 4) (T := TX4) (v := .int t_clauses) C S 0 rfl rfl inlX4 3 (by decide) rfl qf_4_28 rfl dX4_parse_33 ?_
      obtain ⟨⟨o3_t_facts, o3_t_next, o3_t_fault⟩, hq3, hf⟩ := bd_e hf
      refine x_vV (pc := 36) (As := [.int t_clauses]) (rest := []) (isC := [0, 1, 2]) (ws' := (w_X4_parse G a_t a_t_signs a_t_facts t_size t_clauses o3_t_next o3_t_fault t_signs o3_t_facts)) C S (c_X4_parseClause l G a_t a_t_signs a_t_facts t_size t_clauses t_next t_fault t_signs t_facts t_clauses o3_t_facts o3_t_next o3_t_fault hq3) (u_X4_parse_X4_parseClause_31 hts) (ci := 4) rfl 0 rfl rfl rfl rfl rfl rfl hl.1 rfl (Nat.le_of_ble_eq_true rfl) dX4_parse_36 (fun H locs S => ?_)
      refine lv_aload_n (pc := 39) hx hb dX4_parse_39 rfl (lv_at hl 0 rfl) ?_
      refine lv_dup (pc := 40) hx hb dX4_parse_40 rfl ?_
      refine x_get (pc := 41) (ci := 4) (T := TX4) (v := .int t_clauses) C S 0 rfl rfl inlX4 3 (by decide) rfl qf_4_28 rfl dX4_parse_41 ?_
      refine lv_iconst (pc := 44) hx hb dX4_parse_44 ic_1 ?_
      refine lv_iadd (pc := 45) hx hb dX4_parse_45 ?_
      refine x_put (pc := 46) (ci := 4) (T := TX4) (ws' := (w_X4_parse G a_t a_t_signs a_t_facts t_size (t_clauses + (1 : Int32)) o3_t_next o3_t_fault t_signs o3_t_facts)) C S tyX4 tyX4_ok nmX4 0 rfl rfl inlX4 3 (by decide) rfl qf_4_28 rfl rfl rfl rfl (Nat.le_of_ble_eq_true rfl) rfl dX4_parse_46 (fun H locs S => ?_)
      refine lv_aload_n (pc := 49) hx hb dX4_parse_49 rfl (lv_at hl 0 rfl) ?_
      refine x_get (pc := 50) (ci := 4) (T := TX4) (v := .int (t_clauses + (1 : Int32))) C S 0 rfl rfl inlX4 3 (by decide) rfl qf_4_28 rfl dX4_parse_50 ?_
      refine lv_bipush (pc := 53) hx hb dX4_parse_53 bc_6 ?_
      refine lv_icmp_ge (tgt := 71) (pc := 55) hx hb dX4_parse_55 (by decide) (fun c4 => ?_) (fun c4 => ?_)
      · have hf := ifp c4 hf
        refine lv_iconst (pc := 71) hx hb dX4_parse_71 ic_0 ?_
        refine lv_istore_n (pc := 72) (lv' := [(1, .int (0 : Int32)), (0, .ref a_t)]) hx hb dX4_parse_72 rfl hl (by decide) rfl (fun ls hl => ?_)
        refine lv_goto (tgt := 18) (pc := 73) hx hb dX4_parse_73 (by decide) ?_
        exact hk18 ((0 : Int32)) (o3_t_facts) ((t_clauses + (1 : Int32))) (o3_t_next) (o3_t_fault)  hf S (lv_sub hl [1, 0] rfl)
      · have hf := ifn c4 hf
        refine lv_aload_n (pc := 58) hx hb dX4_parse_58 rfl (lv_at hl 0 rfl) ?_
        refine lv_bipush (pc := 59) hx hb dX4_parse_59 bc_59 ?_
        obtain ⟨⟨r5, o5_t_next⟩, hq5, hf⟩ := bd_e hf
        refine x_vI (pc := 61) (As := [.int (59 : Int32)]) (rest := []) (isC := [0, 1]) (ws' := (w_X4_parse G a_t a_t_signs a_t_facts t_size (t_clauses + (1 : Int32)) o5_t_next o3_t_fault t_signs o3_t_facts)) C S (c_X4_skip l G a_t a_t_signs a_t_facts t_size (t_clauses + (1 : Int32)) o3_t_next o3_t_fault t_signs (59 : Int32) r5 o5_t_next hq5) (u_X4_parse_X4_skip_35 hts) (ci := 4) rfl 0 rfl rfl rfl rfl rfl rfl hl.1 rfl (Nat.le_of_ble_eq_true rfl) dX4_parse_61 (fun H locs S => ?_)
        refine lv_if_eq (tgt := 71) (pc := 64) hx hb dX4_parse_64 (by decide) (fun c6 => ?_) (fun c6 => ?_)
        · have hf := ifp c6 hf
          refine lv_iconst (pc := 71) hx hb dX4_parse_71 ic_0 ?_
          refine lv_istore_n (pc := 72) (lv' := [(1, .int (0 : Int32)), (0, .ref a_t)]) hx hb dX4_parse_72 rfl hl (by decide) rfl (fun ls hl => ?_)
          refine lv_goto (tgt := 18) (pc := 73) hx hb dX4_parse_73 (by decide) ?_
          exact hk18 ((0 : Int32)) (o3_t_facts) ((t_clauses + (1 : Int32))) (o5_t_next) (o3_t_fault)  hf S (lv_sub hl [1, 0] rfl)
        · have hf := ifn c6 hf
          refine lv_iconst (pc := 67) hx hb dX4_parse_67 ic_1 ?_
          refine lv_goto (tgt := 72) (pc := 68) hx hb dX4_parse_68 (by decide) ?_
          refine lv_istore_n (pc := 72) (lv' := [(1, .int (1 : Int32)), (0, .ref a_t)]) hx hb dX4_parse_72 rfl hl (by decide) rfl (fun ls hl => ?_)
          refine lv_goto (tgt := 18) (pc := 73) hx hb dX4_parse_73 (by decide) ?_
          exact hk18 ((1 : Int32)) (o3_t_facts) ((t_clauses + (1 : Int32))) (o5_t_next) (o3_t_fault)  hf S (lv_sub hl [1, 0] rfl)
set_option maxRecDepth 100000 in
set_option maxHeartbeats 4000000 in
theorem h_X4_parse_18 (C : Cx p s m args meth c cX4_parse (some .int) 2 RX4 G A) (t_size : Int32) (t_signs : Nat → Int32) (n : Nat) (x : Int32 × (Nat → Int32) × Int32 × Int32 × Int32) (hf : lp (fun k x => b_X4_parse_18 t_signs t_size k x.1 x.2.1 x.2.2.1 x.2.2.2.1 x.2.2.2.2) n x = some (r, z_t_facts, z_t_clauses, z_t_next, z_t_fault)) {H : Heap} {locs : List Loc} {ls : Array Slot} (S : St G A s.heap H locs (w_X4_parse G a_t a_t_signs a_t_facts t_size x.2.2.1 x.2.2.2.1 x.2.2.2.2 t_signs x.2.1)) (hl : lv_has ls 2 [(0, .ref a_t), (1, .int x.1)]) : W p l e rm_X4_parse s m args below meth c H locs 0 0 (QI G below args s A r (w_X4_parse G a_t a_t_signs a_t_facts t_size z_t_clauses z_t_next z_t_fault t_signs z_t_facts)) (F0 m 18 ls []) :=
  lp_ind (P := fun x => ∀ {H : Heap} {locs : List Loc} {ls : Array Slot}, St G A s.heap H locs (w_X4_parse G a_t a_t_signs a_t_facts t_size x.2.2.1 x.2.2.2.1 x.2.2.2.2 t_signs x.2.1) → lv_has ls 2 [(0, .ref a_t), (1, .int x.1)] → W p l e rm_X4_parse s m args below meth c H locs 0 0 (QI G below args s A r (w_X4_parse G a_t a_t_signs a_t_facts t_size z_t_clauses z_t_next z_t_fault t_signs z_t_facts)) (F0 m 18 ls [])) (fun k hk x hf _ _ _ S hl => k_X4_parse_18 C t_size x.2.2.1 x.2.2.2.1 x.2.2.2.2 t_signs x.2.1 x.1  k (fun x1' t_facts' t_clauses' t_next' t_fault'  h S hl => hk (x1', t_facts', t_clauses', t_next', t_fault') h S hl) hf S hl) n x hf S hl
set_option maxRecDepth 100000 in
set_option maxHeartbeats 4000000 in
theorem c_X4_parse (l : Launch) (G : GE) (a_t a_t_signs a_t_facts : Nat) (t_size : Int32) (t_clauses : Int32) (t_next : Int32) (t_fault : Int32) (t_signs : Nat → Int32) (t_facts : Nat → Int32) (r : Int32) (z_t_facts : Nat → Int32) (z_t_clauses : Int32) (z_t_next : Int32) (z_t_fault : Int32) (hf : f_X4_parse t_signs t_facts t_size = some (r, z_t_facts, z_t_clauses, z_t_next, z_t_fault)) : CI l G yX4_parse kw_X4_parse rm_X4_parse [.ref a_t] (w_X4_parse G a_t a_t_signs a_t_facts t_size t_clauses t_next t_fault t_signs t_facts) r (w_X4_parse G a_t a_t_signs a_t_facts t_size z_t_clauses z_t_next z_t_fault t_signs z_t_facts) := by
  refine en_I (cc := cX4_parse) (maxL := 2) (ret := (some .int)) (by decide +kernel) (Nat.le_of_ble_eq_true rfl) ?_
  intro p e s m args below meth c A ls C S hl
  have hl : lv_has ls 2 [(0, .ref a_t)] := hl
  have C : Cx p s m args meth c cX4_parse (some .int) 2 RX4 G A := C
  unfold f_X4_parse at hf
  have hx := C.1
  have hb := C.2.1
  have hown := C.2.2.2.2.1
  have hts := C.2.2.2.2.2.1
  have hN := C.2.2.2.2.2.2.2.2.2.2
  refine lv_aload_n (pc := 0) hx hb dX4_parse_0 rfl (lv_at hl 0 rfl) ?_
  refine lv_iconst (pc := 1) hx hb dX4_parse_1 ic_0 ?_
  refine x_put (pc := 2) (ci := 4) (T := TX4) (ws' := (w_X4_parse G a_t a_t_signs a_t_facts t_size t_clauses (0 : Int32) t_fault t_signs t_facts)) C S tyX4 tyX4_ok nmX4 0 rfl rfl inlX4 4 (by decide) rfl qf_4_22 rfl rfl rfl rfl (Nat.le_of_ble_eq_true rfl) rfl dX4_parse_2 (fun H locs S => ?_)
  refine lv_aload_n (pc := 5) hx hb dX4_parse_5 rfl (lv_at hl 0 rfl) ?_
  refine lv_bipush (pc := 6) hx hb dX4_parse_6 bc_m5 ?_
  refine x_put (pc := 8) (ci := 4) (T := TX4) (ws' := (w_X4_parse G a_t a_t_signs a_t_facts t_size t_clauses (0 : Int32) (-5 : Int32) t_signs t_facts)) C S tyX4 tyX4_ok nmX4 0 rfl rfl inlX4 5 (by decide) rfl qf_4_25 rfl rfl rfl rfl (Nat.le_of_ble_eq_true rfl) rfl dX4_parse_8 (fun H locs S => ?_)
  refine lv_aload_n (pc := 11) hx hb dX4_parse_11 rfl (lv_at hl 0 rfl) ?_
  refine lv_iconst (pc := 12) hx hb dX4_parse_12 ic_0 ?_
  refine x_put (pc := 13) (ci := 4) (T := TX4) (ws' := (w_X4_parse G a_t a_t_signs a_t_facts t_size (0 : Int32) (0 : Int32) (-5 : Int32) t_signs t_facts)) C S tyX4 tyX4_ok nmX4 0 rfl rfl inlX4 3 (by decide) rfl qf_4_28 rfl rfl rfl rfl (Nat.le_of_ble_eq_true rfl) rfl dX4_parse_13 (fun H locs S => ?_)
  refine lv_iconst (pc := 16) hx hb dX4_parse_16 ic_1 ?_
  refine lv_istore_n (pc := 17) (lv' := [(1, .int (1 : Int32)), (0, .ref a_t)]) hx hb dX4_parse_17 rfl hl (by decide) rfl (fun ls hl => ?_)
  exact h_X4_parse_18 C (t_size) (t_signs) fu ((1 : Int32), t_facts, (0 : Int32), (0 : Int32), (-5 : Int32)) hf S (lv_sub hl [1, 0] rfl)
end
abbrev rm_X6_setDepot : Room := { frames := 1, cells := 0, slots := 0, locals := 24 }
abbrev kw_X6_setDepot : Cond := .code yX6_setDepot cX6_setDepot 3 none
abbrev w_X6_setDepot (G : GE) (a_t a_t_facts a_t_roundsOf a_t_locked a_t_rules a_t_sizes a_t_rows a_t_seen a_t_plan a_t_book : Nat) (t_stopCount : Int32) (t_metric : Int32) (t_fixed : Int32) (t_facts : Nat → Int32) : va_W := [(a_t, ob 6 [.ref a_t_facts, .ref a_t_roundsOf, .ref a_t_locked, .ref a_t_rules, .ref a_t_sizes, .ref a_t_rows, .ref a_t_seen, .ref a_t_plan, .ref a_t_book, .int t_stopCount, .int t_metric, .int t_fixed]), (a_t_facts, aI G 102 t_facts)]
theorem u_X6_setDepot_X6_setFact_70 {s : State} {args : Array Value} (hts : ∀ w ∈ WU, w.before args s = true) : CallW rm_X6_setDepot s args RX6 RX6 70 yX6_setFact cX6_setFact 5 none (kw_X6_setFact :: WU) rm_X6_setFact 0 0 3 := cwV 3 hts (gV qm_6_70 qi_X6_setFact ql_X6_setFact qn_6 qc_X6_setFact) rfl rfl rfl (by decide +kernel) ⟨Nat.le_of_ble_eq_true rfl, Nat.le_of_ble_eq_true rfl⟩
section
variable {p : Program} {l : Launch} {e : Env} {s : State} {m : MethodId} {args : Array Value} {below : List Frame} {meth : Method} {c : Code} {A : Nat → Prop} {G : GE} {a_t a_t_facts a_t_roundsOf a_t_locked a_t_rules a_t_sizes a_t_rows a_t_seen a_t_plan a_t_book : Nat} {z_t_facts : Nat → Int32}
set_option maxRecDepth 100000 in
set_option maxHeartbeats 4000000 in
theorem c_X6_setDepot (l : Launch) (G : GE) (a_t a_t_facts a_t_roundsOf a_t_locked a_t_rules a_t_sizes a_t_rows a_t_seen a_t_plan a_t_book : Nat) (t_stopCount : Int32) (t_metric : Int32) (t_fixed : Int32) (t_facts : Nat → Int32) (x1 : Int32) (x2 : Int32) (z_t_facts : Nat → Int32) (hf : f_X6_setDepot t_facts x1 x2 = some z_t_facts) : CV l G yX6_setDepot kw_X6_setDepot rm_X6_setDepot [.ref a_t, .int x1, .int x2] (w_X6_setDepot G a_t a_t_facts a_t_roundsOf a_t_locked a_t_rules a_t_sizes a_t_rows a_t_seen a_t_plan a_t_book t_stopCount t_metric t_fixed t_facts) (w_X6_setDepot G a_t a_t_facts a_t_roundsOf a_t_locked a_t_rules a_t_sizes a_t_rows a_t_seen a_t_plan a_t_book t_stopCount t_metric t_fixed z_t_facts) := by
  refine en_V (cc := cX6_setDepot) (maxL := 3) (ret := none) (by decide +kernel) (Nat.le_of_ble_eq_true rfl) ?_
  intro p e s m args below meth c A ls C S hl
  have hl : lv_has ls 3 [(0, .ref a_t), (1, .int x1), (2, .int x2)] := hl
  have C : Cx p s m args meth c cX6_setDepot none 3 RX6 G A := C
  unfold f_X6_setDepot at hf
  have hx := C.1
  have hb := C.2.1
  have hown := C.2.2.2.2.1
  have hts := C.2.2.2.2.2.1
  have hN := C.2.2.2.2.2.2.2.2.2.2
  refine lv_aload_n (pc := 0) hx hb dX6_setDepot_0 rfl (lv_at hl 0 rfl) ?_
  refine lv_bipush (pc := 1) hx hb dX6_setDepot_1 bc_16 ?_
  refine lv_iconst (pc := 3) hx hb dX6_setDepot_3 ic_0 ?_
  refine lv_iload_n (pc := 4) hx hb dX6_setDepot_4 rfl (lv_at hl 1 rfl) ?_
  obtain ⟨o1_t_facts, hq1, hf⟩ := bd_e hf
  refine x_vV (pc := 5) (As := [.int (16 : Int32), .int (0 : Int32), .int x1]) (rest := []) (isC := [0, 1]) (ws' := (w_X6_setDepot G a_t a_t_facts a_t_roundsOf a_t_locked a_t_rules a_t_sizes a_t_rows a_t_seen a_t_plan a_t_book t_stopCount t_metric t_fixed o1_t_facts)) C S (c_X6_setFact l G a_t a_t_facts a_t_roundsOf a_t_locked a_t_rules a_t_sizes a_t_rows a_t_seen a_t_plan a_t_book t_stopCount t_metric t_fixed t_facts (16 : Int32) (0 : Int32) x1 o1_t_facts hq1) (u_X6_setDepot_X6_setFact_70 hts) (ci := 6) rfl 0 rfl rfl rfl rfl rfl rfl hl.1 rfl (Nat.le_of_ble_eq_true rfl) dX6_setDepot_5 (fun H locs S => ?_)
  refine lv_aload_n (pc := 8) hx hb dX6_setDepot_8 rfl (lv_at hl 0 rfl) ?_
  refine lv_bipush (pc := 9) hx hb dX6_setDepot_9 bc_16 ?_
  refine lv_iconst (pc := 11) hx hb dX6_setDepot_11 ic_1 ?_
  refine lv_iload_n (pc := 12) hx hb dX6_setDepot_12 rfl (lv_at hl 2 rfl) ?_
  obtain ⟨o2_t_facts, hq2, hf⟩ := bd_e hf
  refine x_vV (pc := 13) (As := [.int (16 : Int32), .int (1 : Int32), .int x2]) (rest := []) (isC := [0, 1]) (ws' := (w_X6_setDepot G a_t a_t_facts a_t_roundsOf a_t_locked a_t_rules a_t_sizes a_t_rows a_t_seen a_t_plan a_t_book t_stopCount t_metric t_fixed o2_t_facts)) C S (c_X6_setFact l G a_t a_t_facts a_t_roundsOf a_t_locked a_t_rules a_t_sizes a_t_rows a_t_seen a_t_plan a_t_book t_stopCount t_metric t_fixed o1_t_facts (16 : Int32) (1 : Int32) x2 o2_t_facts hq2) (u_X6_setDepot_X6_setFact_70 hts) (ci := 6) rfl 0 rfl rfl rfl rfl rfl rfl hl.1 rfl (Nat.le_of_ble_eq_true rfl) dX6_setDepot_13 (fun H locs S => ?_)
  cases hf
  exact x_vret (pc := 16) C S dX6_setDepot_16
end
abbrev rm_X6_setRule : Room := { frames := 0, cells := 0, slots := 0, locals := 0 }
abbrev kw_X6_setRule : Cond := .code yX6_setRule cX6_setRule 5 none
abbrev w_X6_setRule (G : GE) (a_t a_t_facts a_t_roundsOf a_t_locked a_t_rules a_t_sizes a_t_rows a_t_seen a_t_plan a_t_book : Nat) (t_stopCount : Int32) (t_metric : Int32) (t_fixed : Int32) (t_rules : Nat → Int32) : va_W := [(a_t, ob 6 [.ref a_t_facts, .ref a_t_roundsOf, .ref a_t_locked, .ref a_t_rules, .ref a_t_sizes, .ref a_t_rows, .ref a_t_seen, .ref a_t_plan, .ref a_t_book, .int t_stopCount, .int t_metric, .int t_fixed]), (a_t_rules, aI G 12 t_rules)]
section
variable {p : Program} {l : Launch} {e : Env} {s : State} {m : MethodId} {args : Array Value} {below : List Frame} {meth : Method} {c : Code} {A : Nat → Prop} {G : GE} {a_t a_t_facts a_t_roundsOf a_t_locked a_t_rules a_t_sizes a_t_rows a_t_seen a_t_plan a_t_book : Nat} {z_t_rules : Nat → Int32}
set_option maxRecDepth 100000 in
set_option maxHeartbeats 4000000 in
theorem c_X6_setRule (l : Launch) (G : GE) (a_t a_t_facts a_t_roundsOf a_t_locked a_t_rules a_t_sizes a_t_rows a_t_seen a_t_plan a_t_book : Nat) (t_stopCount : Int32) (t_metric : Int32) (t_fixed : Int32) (t_rules : Nat → Int32) (x1 : Int32) (x2 : Int32) (x3 : Int32) (z_t_rules : Nat → Int32) (hf : f_X6_setRule t_rules x1 x2 x3 = some z_t_rules) : CV l G yX6_setRule kw_X6_setRule rm_X6_setRule [.ref a_t, .int x1, .int x2, .int x3] (w_X6_setRule G a_t a_t_facts a_t_roundsOf a_t_locked a_t_rules a_t_sizes a_t_rows a_t_seen a_t_plan a_t_book t_stopCount t_metric t_fixed t_rules) (w_X6_setRule G a_t a_t_facts a_t_roundsOf a_t_locked a_t_rules a_t_sizes a_t_rows a_t_seen a_t_plan a_t_book t_stopCount t_metric t_fixed z_t_rules) := by
  refine en_V (cc := cX6_setRule) (maxL := 5) (ret := none) (by decide +kernel) (Nat.le_of_ble_eq_true rfl) ?_
  intro p e s m args below meth c A ls C S hl
  have hl : lv_has ls 5 [(0, .ref a_t), (1, .int x1), (2, .int x2), (3, .int x3)] := hl
  have C : Cx p s m args meth c cX6_setRule none 5 RX6 G A := C
  unfold f_X6_setRule at hf
  have hx := C.1
  have hb := C.2.1
  have hown := C.2.2.2.2.1
  have hts := C.2.2.2.2.2.1
  have hN := C.2.2.2.2.2.2.2.2.2.2
  refine lv_iload_n (pc := 0) hx hb dX6_setRule_0 rfl (lv_at hl 1 rfl) ?_
  refine lv_iconst (pc := 1) hx hb dX6_setRule_1 ic_3 ?_
  refine lv_imul (pc := 2) hx hb dX6_setRule_2 ?_
  refine lv_iload_n (pc := 3) hx hb dX6_setRule_3 rfl (lv_at hl 2 rfl) ?_
  refine lv_iadd (pc := 4) hx hb dX6_setRule_4 ?_
  refine lv_istore (pc := 5) (lv' := [(4, .int ((x1 * (3 : Int32)) + x2)), (0, .ref a_t), (1, .int x1), (2, .int x2), (3, .int x3)]) hx hb dX6_setRule_5 hl (by decide) rfl (fun ls hl => ?_)
  refine lv_iload (pc := 7) hx hb dX6_setRule_7 (lv_at hl 0 rfl) ?_
  refine lv_if_lt (tgt := 30) (pc := 9) hx hb dX6_setRule_9 (by decide) (fun c1 => ?_) (fun c1 => ?_)
  · have hf := ifp c1 hf
    cases hf
    exact x_vret (pc := 30) C S dX6_setRule_30
  · have hf := ifn c1 hf
    refine lv_iload (pc := 12) hx hb dX6_setRule_12 (lv_at hl 0 rfl) ?_
    refine lv_aload_n (pc := 14) hx hb dX6_setRule_14 rfl (lv_at hl 1 rfl) ?_
    refine x_get (pc := 15) (ci := 6) (T := TX6) (v := .ref a_t_rules) C S 0 rfl rfl inlX6 3 (by decide) rfl qf_6_22 rfl dX6_setRule_15 ?_
    refine x_lenI (pc := 18) C S 1 rfl nc_12 dX6_setRule_18 ?_
    refine lv_icmp_ge (tgt := 30) (pc := 19) hx hb dX6_setRule_19 (by decide) (fun c2 => ?_) (fun c2 => ?_)
    · have hf := ifp c2 hf
      cases hf
      exact x_vret (pc := 30) C S dX6_setRule_30
    · have hf := ifn c2 hf
      refine lv_aload_n (pc := 22) hx hb dX6_setRule_22 rfl (lv_at hl 1 rfl) ?_
      refine x_get (pc := 23) (ci := 6) (T := TX6) (v := .ref a_t_rules) C S 0 rfl rfl inlX6 3 (by decide) rfl qf_6_22 rfl dX6_setRule_23 ?_
      refine lv_iload (pc := 26) hx hb dX6_setRule_26 (lv_at hl 0 rfl) ?_
      refine lv_iload_n (pc := 28) hx hb dX6_setRule_28 rfl (lv_at hl 4 rfl) ?_
      obtain ⟨hv3, hf⟩ := gI_e hf
      refine x_iast (pc := 29) (ws' := (w_X6_setRule G a_t a_t_facts a_t_roundsOf a_t_locked a_t_rules a_t_sizes a_t_rows a_t_seen a_t_plan a_t_book t_stopCount t_metric t_fixed (upd t_rules ((x1 * (3 : Int32)) + x2).toNatClampNeg x3))) C S 1 rfl hv3 rfl dX6_setRule_29 (fun H locs S => ?_)
      cases hf
      exact x_vret (pc := 30) C S dX6_setRule_30
end
abbrev rm_X6_isStop : Room := { frames := 0, cells := 0, slots := 0, locals := 0 }
abbrev kw_X6_isStop : Cond := .code yX6_isStop cX6_isStop 2 (some .boolean)
abbrev w_X6_isStop (G : GE) (a_t a_t_facts a_t_roundsOf a_t_locked a_t_rules a_t_sizes a_t_rows a_t_seen a_t_plan a_t_book : Nat) (t_stopCount : Int32) (t_metric : Int32) (t_fixed : Int32) : va_W := [(a_t, ob 6 [.ref a_t_facts, .ref a_t_roundsOf, .ref a_t_locked, .ref a_t_rules, .ref a_t_sizes, .ref a_t_rows, .ref a_t_seen, .ref a_t_plan, .ref a_t_book, .int t_stopCount, .int t_metric, .int t_fixed])]
section
variable {p : Program} {l : Launch} {e : Env} {s : State} {m : MethodId} {args : Array Value} {below : List Frame} {meth : Method} {c : Code} {A : Nat → Prop} {G : GE} {a_t a_t_facts a_t_roundsOf a_t_locked a_t_rules a_t_sizes a_t_rows a_t_seen a_t_plan a_t_book : Nat} {r : Int32}
set_option maxRecDepth 100000 in
set_option maxHeartbeats 4000000 in
theorem c_X6_isStop (l : Launch) (G : GE) (a_t a_t_facts a_t_roundsOf a_t_locked a_t_rules a_t_sizes a_t_rows a_t_seen a_t_plan a_t_book : Nat) (t_stopCount : Int32) (t_metric : Int32) (t_fixed : Int32) (x1 : Int32) (r : Int32) (hf : f_X6_isStop t_stopCount x1 = some r) : CI l G yX6_isStop kw_X6_isStop rm_X6_isStop [.ref a_t, .int x1] (w_X6_isStop G a_t a_t_facts a_t_roundsOf a_t_locked a_t_rules a_t_sizes a_t_rows a_t_seen a_t_plan a_t_book t_stopCount t_metric t_fixed) r (w_X6_isStop G a_t a_t_facts a_t_roundsOf a_t_locked a_t_rules a_t_sizes a_t_rows a_t_seen a_t_plan a_t_book t_stopCount t_metric t_fixed) := by
  refine en_I (cc := cX6_isStop) (maxL := 2) (ret := (some .boolean)) (by decide +kernel) (Nat.le_of_ble_eq_true rfl) ?_
  intro p e s m args below meth c A ls C S hl
  have hl : lv_has ls 2 [(0, .ref a_t), (1, .int x1)] := hl
  have C : Cx p s m args meth c cX6_isStop (some .boolean) 2 RX6 G A := C
  unfold f_X6_isStop at hf
  have hx := C.1
  have hb := C.2.1
  have hown := C.2.2.2.2.1
  have hts := C.2.2.2.2.2.1
  have hN := C.2.2.2.2.2.2.2.2.2.2
  refine lv_iload_n (pc := 0) hx hb dX6_isStop_0 rfl (lv_at hl 1 rfl) ?_
  refine lv_if_lt (tgt := 16) (pc := 1) hx hb dX6_isStop_1 (by decide) (fun c1 => ?_) (fun c1 => ?_)
  · have hf := ifp c1 hf
    refine lv_iconst (pc := 16) hx hb dX6_isStop_16 ic_0 ?_
    cases hf
    exact x_zret (pc := 17) (by decide) C S dX6_isStop_17
  · have hf := ifn c1 hf
    refine lv_iload_n (pc := 4) hx hb dX6_isStop_4 rfl (lv_at hl 1 rfl) ?_
    refine lv_aload_n (pc := 5) hx hb dX6_isStop_5 rfl (lv_at hl 0 rfl) ?_
    refine x_get (pc := 6) (ci := 6) (T := TX6) (v := .int t_stopCount) C S 0 rfl rfl inlX6 9 (by decide) rfl qf_6_60 rfl dX6_isStop_6 ?_
    refine lv_icmp_ge (tgt := 16) (pc := 9) hx hb dX6_isStop_9 (by decide) (fun c2 => ?_) (fun c2 => ?_)
    · have hf := ifp c2 hf
      refine lv_iconst (pc := 16) hx hb dX6_isStop_16 ic_0 ?_
      cases hf
      exact x_zret (pc := 17) (by decide) C S dX6_isStop_17
    · have hf := ifn c2 hf
      refine lv_iconst (pc := 12) hx hb dX6_isStop_12 ic_1 ?_
      refine lv_goto (tgt := 17) (pc := 13) hx hb dX6_isStop_13 (by decide) ?_
      cases hf
      exact x_zret (pc := 17) (by decide) C S dX6_isStop_17
end
abbrev rm_X6_lockedCount : Room := { frames := 1, cells := 0, slots := 0, locals := 21 }
abbrev kw_X6_lockedCount : Cond := .code yX6_lockedCount cX6_lockedCount 3 (some .int)
abbrev w_X6_lockedCount (G : GE) (a_t a_t_facts a_t_roundsOf a_t_locked a_t_rules a_t_sizes a_t_rows a_t_seen a_t_plan a_t_book : Nat) (t_stopCount : Int32) (t_metric : Int32) (t_fixed : Int32) (t_locked : Nat → Int32) : va_W := [(a_t, ob 6 [.ref a_t_facts, .ref a_t_roundsOf, .ref a_t_locked, .ref a_t_rules, .ref a_t_sizes, .ref a_t_rows, .ref a_t_seen, .ref a_t_plan, .ref a_t_book, .int t_stopCount, .int t_metric, .int t_fixed]), (a_t_locked, aZ G 16 t_locked)]
theorem u_X6_lockedCount_X6_isLocked_127 {s : State} {args : Array Value} (hts : ∀ w ∈ WU, w.before args s = true) : CallW rm_X6_lockedCount s args RX6 RX6 127 yX6_isLocked cX6_isLocked 2 (some .boolean) (kw_X6_isLocked :: WU) rm_X6_isLocked 0 0 1 := cwV 1 hts (gV qm_6_127 qi_X6_isLocked ql_X6_isLocked qn_6 qc_X6_isLocked) rfl rfl rfl (by decide +kernel) ⟨Nat.le_of_ble_eq_true rfl, Nat.le_of_ble_eq_true rfl⟩
section
variable {p : Program} {l : Launch} {e : Env} {s : State} {m : MethodId} {args : Array Value} {below : List Frame} {meth : Method} {c : Code} {A : Nat → Prop} {G : GE} {a_t a_t_facts a_t_roundsOf a_t_locked a_t_rules a_t_sizes a_t_rows a_t_seen a_t_plan a_t_book : Nat} {r : Int32}
set_option maxRecDepth 100000 in
set_option maxHeartbeats 4000000 in
theorem k_X6_lockedCount_4 (C : Cx p s m args meth c cX6_lockedCount (some .int) 3 RX6 G A) (t_stopCount : Int32) (t_metric : Int32) (t_fixed : Int32) (t_locked : Nat → Int32) (x1 : Int32) (x2 : Int32) (k4 : Int32 × Int32 → Option (Int32)) (hk4 : ∀ {H : Heap} {locs : List Loc} {ls : Array Slot} (x1' : Int32) (x2' : Int32), k4 (x1', x2') = some r → St G A s.heap H locs (w_X6_lockedCount G a_t a_t_facts a_t_roundsOf a_t_locked a_t_rules a_t_sizes a_t_rows a_t_seen a_t_plan a_t_book t_stopCount t_metric t_fixed t_locked) → lv_has ls 3 [(0, .ref a_t), (1, .int x1'), (2, .int x2')] → W p l e rm_X6_lockedCount s m args below meth c H locs 0 0 (QI G below args s A r (w_X6_lockedCount G a_t a_t_facts a_t_roundsOf a_t_locked a_t_rules a_t_sizes a_t_rows a_t_seen a_t_plan a_t_book t_stopCount t_metric t_fixed t_locked)) (F0 m 4 ls [])) {H : Heap} {locs : List Loc} {ls : Array Slot} (hf : b_X6_lockedCount_4 t_locked t_stopCount k4 x1 x2 = some r) (S : St G A s.heap H locs (w_X6_lockedCount G a_t a_t_facts a_t_roundsOf a_t_locked a_t_rules a_t_sizes a_t_rows a_t_seen a_t_plan a_t_book t_stopCount t_metric t_fixed t_locked)) (hl : lv_has ls 3 [(0, .ref a_t), (1, .int x1), (2, .int x2)]) : W p l e rm_X6_lockedCount s m args below meth c H locs 0 0 (QI G below args s A r (w_X6_lockedCount G a_t a_t_facts a_t_roundsOf a_t_locked a_t_rules a_t_sizes a_t_rows a_t_seen a_t_plan a_t_book t_stopCount t_metric t_fixed t_locked)) (F0 m 4 ls []) := by
  unfold b_X6_lockedCount_4 at hf
  have hx := C.1
  have hb := C.2.1
  have hown := C.2.2.2.2.1
  have hts := C.2.2.2.2.2.1
  have hN := C.2.2.2.2.2.2.2.2.2.2
  refine lv_iload_n (pc := 4) hx hb dX6_lockedCount_4 rfl (lv_at hl 2 rfl) ?_
  refine lv_aload_n (pc := 5) hx hb dX6_lockedCount_5 rfl (lv_at hl 0 rfl) ?_
  refine x_get (pc := 6) (ci := 6) (T := TX6) (v := .int t_stopCount) C S 0 rfl rfl inlX6 9 (by decide) rfl qf_6_60 rfl dX6_lockedCount_6 ?_
  refine lv_icmp_ge (tgt := 34) (pc := 9) hx hb dX6_lockedCount_9 (by decide) (fun c1 => ?_) (fun c1 => ?_)
  · have hf := ifp c1 hf
    refine lv_iload_n (pc := 34) hx hb dX6_lockedCount_34 rfl (lv_at hl 1 rfl) ?_
    cases hf
    exact x_iret (pc := 35) C S dX6_lockedCount_35
  · have hf := ifn c1 hf
    refine lv_iload_n (pc := 12) hx hb dX6_lockedCount_12 rfl (lv_at hl 1 rfl) ?_
    refine lv_aload_n (pc := 13) hx hb dX6_lockedCount_13 rfl (lv_at hl 0 rfl) ?_
    refine lv_iload_n (pc := 14) hx hb dX6_lockedCount_14 rfl (lv_at hl 2 rfl) ?_
    obtain ⟨r2, hq2, hf⟩ := bd_e hf
    refine x_vI (pc := 15) (As := [.int x2]) (rest := [.int x1]) (isC := [0, 1]) (ws' := (w_X6_lockedCount G a_t a_t_facts a_t_roundsOf a_t_locked a_t_rules a_t_sizes a_t_rows a_t_seen a_t_plan a_t_book t_stopCount t_metric t_fixed t_locked)) C S (c_X6_isLocked l G a_t a_t_facts a_t_roundsOf a_t_locked a_t_rules a_t_sizes a_t_rows a_t_seen a_t_plan a_t_book t_stopCount t_metric t_fixed t_locked x2 r2 hq2) (u_X6_lockedCount_X6_isLocked_127 hts) (ci := 6) rfl 0 rfl rfl rfl rfl rfl rfl hl.1 rfl (Nat.le_of_ble_eq_true rfl) dX6_lockedCount_15 (fun H locs S => ?_)
    refine lv_if_eq (tgt := 25) (pc := 18) hx hb dX6_lockedCount_18 (by decide) (fun c3 => ?_) (fun c3 => ?_)
    · have hf := ifp c3 hf
      refine lv_iconst (pc := 25) hx hb dX6_lockedCount_25 ic_0 ?_
      refine lv_iadd (pc := 26) hx hb dX6_lockedCount_26 ?_
      refine lv_istore_n (pc := 27) (lv' := [(1, .int (x1 + (0 : Int32))), (0, .ref a_t), (2, .int x2)]) hx hb dX6_lockedCount_27 rfl hl (by decide) rfl (fun ls hl => ?_)
      refine lv_iinc (pc := 28) (v := (x2 + (1 : Int32))) (lv' := [(2, .int (x2 + (1 : Int32))), (1, .int (x1 + (0 : Int32))), (0, .ref a_t)]) hx hb dX6_lockedCount_28 hl (k := 2) rfl (congrArg (fun z => x2 + z) ic_1) (by decide) rfl (fun ls hl => ?_)
      refine lv_goto (tgt := 4) (pc := 31) hx hb dX6_lockedCount_31 (by decide) ?_
      exact hk4 ((x1 + (0 : Int32))) ((x2 + (1 : Int32)))  hf S (lv_sub hl [2, 1, 0] rfl)
    · have hf := ifn c3 hf
      refine lv_iconst (pc := 21) hx hb dX6_lockedCount_21 ic_1 ?_
      refine lv_goto (tgt := 26) (pc := 22) hx hb dX6_lockedCount_22 (by decide) ?_
      refine lv_iadd (pc := 26) hx hb dX6_lockedCount_26 ?_
      refine lv_istore_n (pc := 27) (lv' := [(1, .int (x1 + (1 : Int32))), (0, .ref a_t), (2, .int x2)]) hx hb dX6_lockedCount_27 rfl hl (by decide) rfl (fun ls hl => ?_)
      refine lv_iinc (pc := 28) (v := (x2 + (1 : Int32))) (lv' := [(2, .int (x2 + (1 : Int32))), (1, .int (x1 + (1 : Int32))), (0, .ref a_t)]) hx hb dX6_lockedCount_28 hl (k := 2) rfl (congrArg (fun z => x2 + z) ic_1) (by decide) rfl (fun ls hl => ?_)
      refine lv_goto (tgt := 4) (pc := 31) hx hb dX6_lockedCount_31 (by decide) ?_
      exact hk4 ((x1 + (1 : Int32))) ((x2 + (1 : Int32)))  hf S (lv_sub hl [2, 1, 0] rfl)
set_option maxRecDepth 100000 in
set_option maxHeartbeats 4000000 in
theorem h_X6_lockedCount_4 (C : Cx p s m args meth c cX6_lockedCount (some .int) 3 RX6 G A) (t_stopCount : Int32) (t_metric : Int32) (t_fixed : Int32) (t_locked : Nat → Int32) (n : Nat) (x : Int32 × Int32) (hf : lp (fun k x => b_X6_lockedCount_4 t_locked t_stopCount k x.1 x.2) n x = some r) {H : Heap} {locs : List Loc} {ls : Array Slot} (S : St G A s.heap H locs (w_X6_lockedCount G a_t a_t_facts a_t_roundsOf a_t_locked a_t_rules a_t_sizes a_t_rows a_t_seen a_t_plan a_t_book t_stopCount t_metric t_fixed t_locked)) (hl : lv_has ls 3 [(0, .ref a_t), (1, .int x.1), (2, .int x.2)]) : W p l e rm_X6_lockedCount s m args below meth c H locs 0 0 (QI G below args s A r (w_X6_lockedCount G a_t a_t_facts a_t_roundsOf a_t_locked a_t_rules a_t_sizes a_t_rows a_t_seen a_t_plan a_t_book t_stopCount t_metric t_fixed t_locked)) (F0 m 4 ls []) :=
  lp_ind (P := fun x => ∀ {H : Heap} {locs : List Loc} {ls : Array Slot}, St G A s.heap H locs (w_X6_lockedCount G a_t a_t_facts a_t_roundsOf a_t_locked a_t_rules a_t_sizes a_t_rows a_t_seen a_t_plan a_t_book t_stopCount t_metric t_fixed t_locked) → lv_has ls 3 [(0, .ref a_t), (1, .int x.1), (2, .int x.2)] → W p l e rm_X6_lockedCount s m args below meth c H locs 0 0 (QI G below args s A r (w_X6_lockedCount G a_t a_t_facts a_t_roundsOf a_t_locked a_t_rules a_t_sizes a_t_rows a_t_seen a_t_plan a_t_book t_stopCount t_metric t_fixed t_locked)) (F0 m 4 ls [])) (fun k hk x hf _ _ _ S hl => k_X6_lockedCount_4 C t_stopCount t_metric t_fixed t_locked x.1 x.2  k (fun x1' x2'  h S hl => hk (x1', x2') h S hl) hf S hl) n x hf S hl
set_option maxRecDepth 100000 in
set_option maxHeartbeats 4000000 in
theorem c_X6_lockedCount (l : Launch) (G : GE) (a_t a_t_facts a_t_roundsOf a_t_locked a_t_rules a_t_sizes a_t_rows a_t_seen a_t_plan a_t_book : Nat) (t_stopCount : Int32) (t_metric : Int32) (t_fixed : Int32) (t_locked : Nat → Int32) (r : Int32) (hf : f_X6_lockedCount t_locked t_stopCount = some r) : CI l G yX6_lockedCount kw_X6_lockedCount rm_X6_lockedCount [.ref a_t] (w_X6_lockedCount G a_t a_t_facts a_t_roundsOf a_t_locked a_t_rules a_t_sizes a_t_rows a_t_seen a_t_plan a_t_book t_stopCount t_metric t_fixed t_locked) r (w_X6_lockedCount G a_t a_t_facts a_t_roundsOf a_t_locked a_t_rules a_t_sizes a_t_rows a_t_seen a_t_plan a_t_book t_stopCount t_metric t_fixed t_locked) := by
  refine en_I (cc := cX6_lockedCount) (maxL := 3) (ret := (some .int)) (by decide +kernel) (Nat.le_of_ble_eq_true rfl) ?_
  intro p e s m args below meth c A ls C S hl
  have hl : lv_has ls 3 [(0, .ref a_t)] := hl
  have C : Cx p s m args meth c cX6_lockedCount (some .int) 3 RX6 G A := C
  unfold f_X6_lockedCount at hf
  have hx := C.1
  have hb := C.2.1
  have hown := C.2.2.2.2.1
  have hts := C.2.2.2.2.2.1
  have hN := C.2.2.2.2.2.2.2.2.2.2
  refine lv_iconst (pc := 0) hx hb dX6_lockedCount_0 ic_0 ?_
  refine lv_istore_n (pc := 1) (lv' := [(1, .int (0 : Int32)), (0, .ref a_t)]) hx hb dX6_lockedCount_1 rfl hl (by decide) rfl (fun ls hl => ?_)
  refine lv_iconst (pc := 2) hx hb dX6_lockedCount_2 ic_0 ?_
  refine lv_istore_n (pc := 3) (lv' := [(2, .int (0 : Int32)), (1, .int (0 : Int32)), (0, .ref a_t)]) hx hb dX6_lockedCount_3 rfl hl (by decide) rfl (fun ls hl => ?_)
  exact h_X6_lockedCount_4 C (t_stopCount) (t_metric) (t_fixed) (t_locked) fu ((0 : Int32), (0 : Int32)) hf S (lv_sub hl [2, 1, 0] rfl)
end
abbrev rm_X6_looseCount : Room := { frames := 1, cells := 0, slots := 0, locals := 21 }
abbrev kw_X6_looseCount : Cond := .code yX6_looseCount cX6_looseCount 3 (some .int)
abbrev w_X6_looseCount (G : GE) (a_t a_t_facts a_t_roundsOf a_t_locked a_t_rules a_t_sizes a_t_rows a_t_seen a_t_plan a_t_book : Nat) (t_stopCount : Int32) (t_metric : Int32) (t_fixed : Int32) (t_roundsOf : Nat → Int32) : va_W := [(a_t, ob 6 [.ref a_t_facts, .ref a_t_roundsOf, .ref a_t_locked, .ref a_t_rules, .ref a_t_sizes, .ref a_t_rows, .ref a_t_seen, .ref a_t_plan, .ref a_t_book, .int t_stopCount, .int t_metric, .int t_fixed]), (a_t_roundsOf, aI G 16 t_roundsOf)]
theorem u_X6_looseCount_X6_roundOf_100 {s : State} {args : Array Value} (hts : ∀ w ∈ WU, w.before args s = true) : CallW rm_X6_looseCount s args RX6 RX6 100 yX6_roundOf cX6_roundOf 2 (some .int) (kw_X6_roundOf :: WU) rm_X6_roundOf 0 0 1 := cwV 1 hts (gV qm_6_100 qi_X6_roundOf ql_X6_roundOf qn_6 qc_X6_roundOf) rfl rfl rfl (by decide +kernel) ⟨Nat.le_of_ble_eq_true rfl, Nat.le_of_ble_eq_true rfl⟩
section
variable {p : Program} {l : Launch} {e : Env} {s : State} {m : MethodId} {args : Array Value} {below : List Frame} {meth : Method} {c : Code} {A : Nat → Prop} {G : GE} {a_t a_t_facts a_t_roundsOf a_t_locked a_t_rules a_t_sizes a_t_rows a_t_seen a_t_plan a_t_book : Nat} {r : Int32}
set_option maxRecDepth 100000 in
set_option maxHeartbeats 4000000 in
theorem k_X6_looseCount_4 (C : Cx p s m args meth c cX6_looseCount (some .int) 3 RX6 G A) (t_stopCount : Int32) (t_metric : Int32) (t_fixed : Int32) (t_roundsOf : Nat → Int32) (x1 : Int32) (x2 : Int32) (k4 : Int32 × Int32 → Option (Int32)) (hk4 : ∀ {H : Heap} {locs : List Loc} {ls : Array Slot} (x1' : Int32) (x2' : Int32), k4 (x1', x2') = some r → St G A s.heap H locs (w_X6_looseCount G a_t a_t_facts a_t_roundsOf a_t_locked a_t_rules a_t_sizes a_t_rows a_t_seen a_t_plan a_t_book t_stopCount t_metric t_fixed t_roundsOf) → lv_has ls 3 [(0, .ref a_t), (1, .int x1'), (2, .int x2')] → W p l e rm_X6_looseCount s m args below meth c H locs 0 0 (QI G below args s A r (w_X6_looseCount G a_t a_t_facts a_t_roundsOf a_t_locked a_t_rules a_t_sizes a_t_rows a_t_seen a_t_plan a_t_book t_stopCount t_metric t_fixed t_roundsOf)) (F0 m 4 ls [])) {H : Heap} {locs : List Loc} {ls : Array Slot} (hf : b_X6_looseCount_4 t_roundsOf t_stopCount k4 x1 x2 = some r) (S : St G A s.heap H locs (w_X6_looseCount G a_t a_t_facts a_t_roundsOf a_t_locked a_t_rules a_t_sizes a_t_rows a_t_seen a_t_plan a_t_book t_stopCount t_metric t_fixed t_roundsOf)) (hl : lv_has ls 3 [(0, .ref a_t), (1, .int x1), (2, .int x2)]) : W p l e rm_X6_looseCount s m args below meth c H locs 0 0 (QI G below args s A r (w_X6_looseCount G a_t a_t_facts a_t_roundsOf a_t_locked a_t_rules a_t_sizes a_t_rows a_t_seen a_t_plan a_t_book t_stopCount t_metric t_fixed t_roundsOf)) (F0 m 4 ls []) := by
  unfold b_X6_looseCount_4 at hf
  have hx := C.1
  have hb := C.2.1
  have hown := C.2.2.2.2.1
  have hts := C.2.2.2.2.2.1
  have hN := C.2.2.2.2.2.2.2.2.2.2
  refine lv_iload_n (pc := 4) hx hb dX6_looseCount_4 rfl (lv_at hl 2 rfl) ?_
  refine lv_aload_n (pc := 5) hx hb dX6_looseCount_5 rfl (lv_at hl 0 rfl) ?_
  refine x_get (pc := 6) (ci := 6) (T := TX6) (v := .int t_stopCount) C S 0 rfl rfl inlX6 9 (by decide) rfl qf_6_60 rfl dX6_looseCount_6 ?_
  refine lv_icmp_ge (tgt := 36) (pc := 9) hx hb dX6_looseCount_9 (by decide) (fun c1 => ?_) (fun c1 => ?_)
  · have hf := ifp c1 hf
    refine lv_iload_n (pc := 36) hx hb dX6_looseCount_36 rfl (lv_at hl 1 rfl) ?_
    cases hf
    exact x_iret (pc := 37) C S dX6_looseCount_37
  · have hf := ifn c1 hf
    refine lv_iload_n (pc := 12) hx hb dX6_looseCount_12 rfl (lv_at hl 1 rfl) ?_
    refine lv_aload_n (pc := 13) hx hb dX6_looseCount_13 rfl (lv_at hl 0 rfl) ?_
    refine lv_iload_n (pc := 14) hx hb dX6_looseCount_14 rfl (lv_at hl 2 rfl) ?_
    obtain ⟨r2, hq2, hf⟩ := bd_e hf
    refine x_vI (pc := 15) (As := [.int x2]) (rest := [.int x1]) (isC := [0, 1]) (ws' := (w_X6_looseCount G a_t a_t_facts a_t_roundsOf a_t_locked a_t_rules a_t_sizes a_t_rows a_t_seen a_t_plan a_t_book t_stopCount t_metric t_fixed t_roundsOf)) C S (c_X6_roundOf l G a_t a_t_facts a_t_roundsOf a_t_locked a_t_rules a_t_sizes a_t_rows a_t_seen a_t_plan a_t_book t_stopCount t_metric t_fixed t_roundsOf x2 r2 hq2) (u_X6_looseCount_X6_roundOf_100 hts) (ci := 6) rfl 0 rfl rfl rfl rfl rfl rfl hl.1 rfl (Nat.le_of_ble_eq_true rfl) dX6_looseCount_15 (fun H locs S => ?_)
    refine lv_bipush (pc := 18) hx hb dX6_looseCount_18 bc_m5 ?_
    refine lv_icmp_ne (tgt := 27) (pc := 20) hx hb dX6_looseCount_20 (by decide) (fun c3 => ?_) (fun c3 => ?_)
    · have hf := ifn c3 hf
      refine lv_iconst (pc := 27) hx hb dX6_looseCount_27 ic_0 ?_
      refine lv_iadd (pc := 28) hx hb dX6_looseCount_28 ?_
      refine lv_istore_n (pc := 29) (lv' := [(1, .int (x1 + (0 : Int32))), (0, .ref a_t), (2, .int x2)]) hx hb dX6_looseCount_29 rfl hl (by decide) rfl (fun ls hl => ?_)
      refine lv_iinc (pc := 30) (v := (x2 + (1 : Int32))) (lv' := [(2, .int (x2 + (1 : Int32))), (1, .int (x1 + (0 : Int32))), (0, .ref a_t)]) hx hb dX6_looseCount_30 hl (k := 2) rfl (congrArg (fun z => x2 + z) ic_1) (by decide) rfl (fun ls hl => ?_)
      refine lv_goto (tgt := 4) (pc := 33) hx hb dX6_looseCount_33 (by decide) ?_
      exact hk4 ((x1 + (0 : Int32))) ((x2 + (1 : Int32)))  hf S (lv_sub hl [2, 1, 0] rfl)
    · have hf := ifp c3 hf
      refine lv_iconst (pc := 23) hx hb dX6_looseCount_23 ic_1 ?_
      refine lv_goto (tgt := 28) (pc := 24) hx hb dX6_looseCount_24 (by decide) ?_
      refine lv_iadd (pc := 28) hx hb dX6_looseCount_28 ?_
      refine lv_istore_n (pc := 29) (lv' := [(1, .int (x1 + (1 : Int32))), (0, .ref a_t), (2, .int x2)]) hx hb dX6_looseCount_29 rfl hl (by decide) rfl (fun ls hl => ?_)
      refine lv_iinc (pc := 30) (v := (x2 + (1 : Int32))) (lv' := [(2, .int (x2 + (1 : Int32))), (1, .int (x1 + (1 : Int32))), (0, .ref a_t)]) hx hb dX6_looseCount_30 hl (k := 2) rfl (congrArg (fun z => x2 + z) ic_1) (by decide) rfl (fun ls hl => ?_)
      refine lv_goto (tgt := 4) (pc := 33) hx hb dX6_looseCount_33 (by decide) ?_
      exact hk4 ((x1 + (1 : Int32))) ((x2 + (1 : Int32)))  hf S (lv_sub hl [2, 1, 0] rfl)
set_option maxRecDepth 100000 in
set_option maxHeartbeats 4000000 in
theorem h_X6_looseCount_4 (C : Cx p s m args meth c cX6_looseCount (some .int) 3 RX6 G A) (t_stopCount : Int32) (t_metric : Int32) (t_fixed : Int32) (t_roundsOf : Nat → Int32) (n : Nat) (x : Int32 × Int32) (hf : lp (fun k x => b_X6_looseCount_4 t_roundsOf t_stopCount k x.1 x.2) n x = some r) {H : Heap} {locs : List Loc} {ls : Array Slot} (S : St G A s.heap H locs (w_X6_looseCount G a_t a_t_facts a_t_roundsOf a_t_locked a_t_rules a_t_sizes a_t_rows a_t_seen a_t_plan a_t_book t_stopCount t_metric t_fixed t_roundsOf)) (hl : lv_has ls 3 [(0, .ref a_t), (1, .int x.1), (2, .int x.2)]) : W p l e rm_X6_looseCount s m args below meth c H locs 0 0 (QI G below args s A r (w_X6_looseCount G a_t a_t_facts a_t_roundsOf a_t_locked a_t_rules a_t_sizes a_t_rows a_t_seen a_t_plan a_t_book t_stopCount t_metric t_fixed t_roundsOf)) (F0 m 4 ls []) :=
  lp_ind (P := fun x => ∀ {H : Heap} {locs : List Loc} {ls : Array Slot}, St G A s.heap H locs (w_X6_looseCount G a_t a_t_facts a_t_roundsOf a_t_locked a_t_rules a_t_sizes a_t_rows a_t_seen a_t_plan a_t_book t_stopCount t_metric t_fixed t_roundsOf) → lv_has ls 3 [(0, .ref a_t), (1, .int x.1), (2, .int x.2)] → W p l e rm_X6_looseCount s m args below meth c H locs 0 0 (QI G below args s A r (w_X6_looseCount G a_t a_t_facts a_t_roundsOf a_t_locked a_t_rules a_t_sizes a_t_rows a_t_seen a_t_plan a_t_book t_stopCount t_metric t_fixed t_roundsOf)) (F0 m 4 ls [])) (fun k hk x hf _ _ _ S hl => k_X6_looseCount_4 C t_stopCount t_metric t_fixed t_roundsOf x.1 x.2  k (fun x1' x2'  h S hl => hk (x1', x2') h S hl) hf S hl) n x hf S hl
set_option maxRecDepth 100000 in
set_option maxHeartbeats 4000000 in
theorem c_X6_looseCount (l : Launch) (G : GE) (a_t a_t_facts a_t_roundsOf a_t_locked a_t_rules a_t_sizes a_t_rows a_t_seen a_t_plan a_t_book : Nat) (t_stopCount : Int32) (t_metric : Int32) (t_fixed : Int32) (t_roundsOf : Nat → Int32) (r : Int32) (hf : f_X6_looseCount t_roundsOf t_stopCount = some r) : CI l G yX6_looseCount kw_X6_looseCount rm_X6_looseCount [.ref a_t] (w_X6_looseCount G a_t a_t_facts a_t_roundsOf a_t_locked a_t_rules a_t_sizes a_t_rows a_t_seen a_t_plan a_t_book t_stopCount t_metric t_fixed t_roundsOf) r (w_X6_looseCount G a_t a_t_facts a_t_roundsOf a_t_locked a_t_rules a_t_sizes a_t_rows a_t_seen a_t_plan a_t_book t_stopCount t_metric t_fixed t_roundsOf) := by
  refine en_I (cc := cX6_looseCount) (maxL := 3) (ret := (some .int)) (by decide +kernel) (Nat.le_of_ble_eq_true rfl) ?_
  intro p e s m args below meth c A ls C S hl
  have hl : lv_has ls 3 [(0, .ref a_t)] := hl
  have C : Cx p s m args meth c cX6_looseCount (some .int) 3 RX6 G A := C
  unfold f_X6_looseCount at hf
  have hx := C.1
  have hb := C.2.1
  have hown := C.2.2.2.2.1
  have hts := C.2.2.2.2.2.1
  have hN := C.2.2.2.2.2.2.2.2.2.2
  refine lv_iconst (pc := 0) hx hb dX6_looseCount_0 ic_0 ?_
  refine lv_istore_n (pc := 1) (lv' := [(1, .int (0 : Int32)), (0, .ref a_t)]) hx hb dX6_looseCount_1 rfl hl (by decide) rfl (fun ls hl => ?_)
  refine lv_iconst (pc := 2) hx hb dX6_looseCount_2 ic_0 ?_
  refine lv_istore_n (pc := 3) (lv' := [(2, .int (0 : Int32)), (1, .int (0 : Int32)), (0, .ref a_t)]) hx hb dX6_looseCount_3 rfl hl (by decide) rfl (fun ls hl => ?_)
  exact h_X6_looseCount_4 C (t_stopCount) (t_metric) (t_fixed) (t_roundsOf) fu ((0 : Int32), (0 : Int32)) hf S (lv_sub hl [2, 1, 0] rfl)
end
abbrev rm_X6_mayBe : Room := { frames := 1, cells := 0, slots := 0, locals := 23 }
abbrev kw_X6_mayBe : Cond := .code yX6_mayBe cX6_mayBe 4 (some .boolean)
abbrev w_X6_mayBe (G : GE) (a_t a_t_facts a_t_roundsOf a_t_locked a_t_rules a_t_sizes a_t_rows a_t_seen a_t_plan a_t_book : Nat) (t_stopCount : Int32) (t_metric : Int32) (t_fixed : Int32) (t_facts : Nat → Int32) : va_W := [(a_t, ob 6 [.ref a_t_facts, .ref a_t_roundsOf, .ref a_t_locked, .ref a_t_rules, .ref a_t_sizes, .ref a_t_rows, .ref a_t_seen, .ref a_t_plan, .ref a_t_book, .int t_stopCount, .int t_metric, .int t_fixed]), (a_t_facts, aI G 102 t_facts)]
theorem u_X6_mayBe_X7_topOf_81 {s : State} {args : Array Value} (hts : ∀ w ∈ WU, w.before args s = true) (hN : Nx s) : va_CN rm_X6_mayBe s args RX6 81 yX7_topOf RX7 cX7_topOf 2 (some .int) (kw_X7_topOf :: WU) rm_X7_topOf 0 0 2 ∧ (Cond.static yX7_topOf).before args s = true ∧ True := ⟨va_cnB 2 hts (gW qc_X7_topOf) rfl rfl rfl (hN.1 _ (by decide +kernel : (RX6, 81, yX7_topOf) ∈ nstM)) (hts _ qn_7) (by decide +kernel) ⟨Nat.le_of_ble_eq_true rfl, Nat.le_of_ble_eq_true rfl⟩, hts _ qs_X7_topOf, trivial⟩
theorem u_X6_mayBe_X7_isUpTo_92 {s : State} {args : Array Value} (hts : ∀ w ∈ WU, w.before args s = true) (hN : Nx s) : va_CN rm_X6_mayBe s args RX6 92 yX7_isUpTo RX7 cX7_isUpTo 2 (some .boolean) (kw_X7_isUpTo :: WU) rm_X7_isUpTo 0 0 2 ∧ (Cond.static yX7_isUpTo).before args s = true ∧ True := ⟨va_cnB 2 hts (gW qc_X7_isUpTo) rfl rfl rfl (hN.1 _ (by decide +kernel : (RX6, 92, yX7_isUpTo) ∈ nstM)) (hts _ qn_7) (by decide +kernel) ⟨Nat.le_of_ble_eq_true rfl, Nat.le_of_ble_eq_true rfl⟩, hts _ qs_X7_isUpTo, trivial⟩
theorem u_X6_mayBe_X6_fact_85 {s : State} {args : Array Value} (hts : ∀ w ∈ WU, w.before args s = true) : CallW rm_X6_mayBe s args RX6 RX6 85 yX6_fact cX6_fact 4 (some .int) (kw_X6_fact :: WU) rm_X6_fact 0 0 2 := cwV 2 hts (gV qm_6_85 qi_X6_fact ql_X6_fact qn_6 qc_X6_fact) rfl rfl rfl (by decide +kernel) ⟨Nat.le_of_ble_eq_true rfl, Nat.le_of_ble_eq_true rfl⟩
section
variable {p : Program} {l : Launch} {e : Env} {s : State} {m : MethodId} {args : Array Value} {below : List Frame} {meth : Method} {c : Code} {A : Nat → Prop} {G : GE} {a_t a_t_facts a_t_roundsOf a_t_locked a_t_rules a_t_sizes a_t_rows a_t_seen a_t_plan a_t_book : Nat} {r : Int32}
set_option maxRecDepth 100000 in
set_option maxHeartbeats 4000000 in
theorem c_X6_mayBe (l : Launch) (G : GE) (a_t a_t_facts a_t_roundsOf a_t_locked a_t_rules a_t_sizes a_t_rows a_t_seen a_t_plan a_t_book : Nat) (t_stopCount : Int32) (t_metric : Int32) (t_fixed : Int32) (t_facts : Nat → Int32) (x1 : Int32) (x2 : Int32) (x3 : Int32) (r : Int32) (hf : f_X6_mayBe t_facts x1 x2 x3 = some r) : CI l G yX6_mayBe kw_X6_mayBe rm_X6_mayBe [.ref a_t, .int x1, .int x2, .int x3] (w_X6_mayBe G a_t a_t_facts a_t_roundsOf a_t_locked a_t_rules a_t_sizes a_t_rows a_t_seen a_t_plan a_t_book t_stopCount t_metric t_fixed t_facts) r (w_X6_mayBe G a_t a_t_facts a_t_roundsOf a_t_locked a_t_rules a_t_sizes a_t_rows a_t_seen a_t_plan a_t_book t_stopCount t_metric t_fixed t_facts) := by
  refine en_I (cc := cX6_mayBe) (maxL := 4) (ret := (some .boolean)) (by decide +kernel) (Nat.le_of_ble_eq_true rfl) ?_
  intro p e s m args below meth c A ls C S hl
  have hl : lv_has ls 4 [(0, .ref a_t), (1, .int x1), (2, .int x2), (3, .int x3)] := hl
  have C : Cx p s m args meth c cX6_mayBe (some .boolean) 4 RX6 G A := C
  unfold f_X6_mayBe at hf
  have hx := C.1
  have hb := C.2.1
  have hown := C.2.2.2.2.1
  have hts := C.2.2.2.2.2.1
  have hN := C.2.2.2.2.2.2.2.2.2.2
  refine lv_iload_n (pc := 0) hx hb dX6_mayBe_0 rfl (lv_at hl 3 rfl) ?_
  refine x_tabN (pc := 1) C S 0 (by decide) (index := 89) (own := RX6) (by decide +kernel) dX6_mayBe_1 ?_
  refine lv_iload_n (pc := 4) hx hb dX6_mayBe_4 rfl (lv_at hl 2 rfl) ?_
  obtain ⟨r1, hq1, hf⟩ := bd_e hf
  refine x_nI (pc := 5) (As := [.ref (tabA G 0), .int x2]) (rest := [.int x3]) (isC := []) (ws' := (w_X6_mayBe G a_t a_t_facts a_t_roundsOf a_t_locked a_t_rules a_t_sizes a_t_rows a_t_seen a_t_plan a_t_book t_stopCount t_metric t_fixed t_facts)) C S (c_X7_topOf l G 0 (by decide) x2 r1 hq1) (u_X6_mayBe_X7_topOf_81 hts hN) rfl rfl rfl rfl rfl hl.1 rfl (Nat.le_of_ble_eq_true rfl) dX6_mayBe_5 (fun H locs S => ?_)
  obtain ⟨r2, hq2, hf⟩ := bd_e hf
  refine x_nI (pc := 8) (As := [.int x3, .int r1]) (rest := []) (isC := []) (ws' := (w_X6_mayBe G a_t a_t_facts a_t_roundsOf a_t_locked a_t_rules a_t_sizes a_t_rows a_t_seen a_t_plan a_t_book t_stopCount t_metric t_fixed t_facts)) C S (c_X7_isUpTo l G x3 r1 r2 hq2) (u_X6_mayBe_X7_isUpTo_92 hts hN) rfl rfl rfl rfl rfl hl.1 rfl (Nat.le_of_ble_eq_true rfl) dX6_mayBe_8 (fun H locs S => ?_)
  refine lv_if_ne (tgt := 16) (pc := 11) hx hb dX6_mayBe_11 (by decide) (fun c3 => ?_) (fun c3 => ?_)
  · have hf := ifn c3 hf
    refine lv_iload_n (pc := 16) hx hb dX6_mayBe_16 rfl (lv_at hl 2 rfl) ?_
    refine lv_iconst (pc := 17) hx hb dX6_mayBe_17 ic_3 ?_
    refine lv_icmp_ne (tgt := 37) (pc := 18) hx hb dX6_mayBe_18 (by decide) (fun c4 => ?_) (fun c4 => ?_)
    · have hf := ifn c4 hf
      refine lv_iload_n (pc := 37) hx hb dX6_mayBe_37 rfl (lv_at hl 2 rfl) ?_
      refine lv_iconst (pc := 38) hx hb dX6_mayBe_38 ic_4 ?_
      refine lv_icmp_ne (tgt := 52) (pc := 39) hx hb dX6_mayBe_39 (by decide) (fun c5 => ?_) (fun c5 => ?_)
      · have hf := ifn c5 hf
        refine lv_iconst (pc := 52) hx hb dX6_mayBe_52 ic_1 ?_
        refine lv_goto (tgt := 57) (pc := 53) hx hb dX6_mayBe_53 (by decide) ?_
        cases hf
        exact x_zret (pc := 57) (by decide) C S dX6_mayBe_57
      · have hf := ifp c5 hf
        refine lv_iload_n (pc := 42) hx hb dX6_mayBe_42 rfl (lv_at hl 3 rfl) ?_
        refine lv_aload_n (pc := 43) hx hb dX6_mayBe_43 rfl (lv_at hl 0 rfl) ?_
        refine lv_iload_n (pc := 44) hx hb dX6_mayBe_44 rfl (lv_at hl 1 rfl) ?_
        refine lv_iconst (pc := 45) hx hb dX6_mayBe_45 ic_3 ?_
        obtain ⟨r6, hq6, hf⟩ := bd_e hf
        refine x_vI (pc := 46) (As := [.int x1, .int (3 : Int32)]) (rest := [.int x3]) (isC := [0, 1]) (ws' := (w_X6_mayBe G a_t a_t_facts a_t_roundsOf a_t_locked a_t_rules a_t_sizes a_t_rows a_t_seen a_t_plan a_t_book t_stopCount t_metric t_fixed t_facts)) C S (c_X6_fact l G a_t a_t_facts a_t_roundsOf a_t_locked a_t_rules a_t_sizes a_t_rows a_t_seen a_t_plan a_t_book t_stopCount t_metric t_fixed t_facts x1 (3 : Int32) r6 hq6) (u_X6_mayBe_X6_fact_85 hts) (ci := 6) rfl 0 rfl rfl rfl rfl rfl rfl hl.1 rfl (Nat.le_of_ble_eq_true rfl) dX6_mayBe_46 (fun H locs S => ?_)
        refine lv_icmp_lt (tgt := 56) (pc := 49) hx hb dX6_mayBe_49 (by decide) (fun c7 => ?_) (fun c7 => ?_)
        · have hf := ifp c7 hf
          refine lv_iconst (pc := 56) hx hb dX6_mayBe_56 ic_0 ?_
          cases hf
          exact x_zret (pc := 57) (by decide) C S dX6_mayBe_57
        · have hf := ifn c7 hf
          refine lv_iconst (pc := 52) hx hb dX6_mayBe_52 ic_1 ?_
          refine lv_goto (tgt := 57) (pc := 53) hx hb dX6_mayBe_53 (by decide) ?_
          cases hf
          exact x_zret (pc := 57) (by decide) C S dX6_mayBe_57
    · have hf := ifp c4 hf
      refine lv_iload_n (pc := 21) hx hb dX6_mayBe_21 rfl (lv_at hl 3 rfl) ?_
      refine lv_aload_n (pc := 22) hx hb dX6_mayBe_22 rfl (lv_at hl 0 rfl) ?_
      refine lv_iload_n (pc := 23) hx hb dX6_mayBe_23 rfl (lv_at hl 1 rfl) ?_
      refine lv_iconst (pc := 24) hx hb dX6_mayBe_24 ic_4 ?_
      obtain ⟨r8, hq8, hf⟩ := bd_e hf
      refine x_vI (pc := 25) (As := [.int x1, .int (4 : Int32)]) (rest := [.int x3]) (isC := [0, 1]) (ws' := (w_X6_mayBe G a_t a_t_facts a_t_roundsOf a_t_locked a_t_rules a_t_sizes a_t_rows a_t_seen a_t_plan a_t_book t_stopCount t_metric t_fixed t_facts)) C S (c_X6_fact l G a_t a_t_facts a_t_roundsOf a_t_locked a_t_rules a_t_sizes a_t_rows a_t_seen a_t_plan a_t_book t_stopCount t_metric t_fixed t_facts x1 (4 : Int32) r8 hq8) (u_X6_mayBe_X6_fact_85 hts) (ci := 6) rfl 0 rfl rfl rfl rfl rfl rfl hl.1 rfl (Nat.le_of_ble_eq_true rfl) dX6_mayBe_25 (fun H locs S => ?_)
      refine lv_icmp_gt (tgt := 35) (pc := 28) hx hb dX6_mayBe_28 (by decide) (fun c9 => ?_) (fun c9 => ?_)
      · have hf := ifp c9 hf
        refine lv_iconst (pc := 35) hx hb dX6_mayBe_35 ic_0 ?_
        cases hf
        exact x_zret (pc := 36) (by decide) C S dX6_mayBe_36
      · have hf := ifn c9 hf
        refine lv_iconst (pc := 31) hx hb dX6_mayBe_31 ic_1 ?_
        refine lv_goto (tgt := 36) (pc := 32) hx hb dX6_mayBe_32 (by decide) ?_
        cases hf
        exact x_zret (pc := 36) (by decide) C S dX6_mayBe_36
  · have hf := ifp c3 hf
    refine lv_iconst (pc := 14) hx hb dX6_mayBe_14 ic_0 ?_
    cases hf
    exact x_zret (pc := 15) (by decide) C S dX6_mayBe_15
end
abbrev rm_X6_setLocked : Room := { frames := 0, cells := 0, slots := 0, locals := 0 }
abbrev kw_X6_setLocked : Cond := .code yX6_setLocked cX6_setLocked 3 none
abbrev w_X6_setLocked (G : GE) (a_t a_t_facts a_t_roundsOf a_t_locked a_t_rules a_t_sizes a_t_rows a_t_seen a_t_plan a_t_book : Nat) (t_stopCount : Int32) (t_metric : Int32) (t_fixed : Int32) (t_locked : Nat → Int32) : va_W := [(a_t, ob 6 [.ref a_t_facts, .ref a_t_roundsOf, .ref a_t_locked, .ref a_t_rules, .ref a_t_sizes, .ref a_t_rows, .ref a_t_seen, .ref a_t_plan, .ref a_t_book, .int t_stopCount, .int t_metric, .int t_fixed]), (a_t_locked, aZ G 16 t_locked)]
section
variable {p : Program} {l : Launch} {e : Env} {s : State} {m : MethodId} {args : Array Value} {below : List Frame} {meth : Method} {c : Code} {A : Nat → Prop} {G : GE} {a_t a_t_facts a_t_roundsOf a_t_locked a_t_rules a_t_sizes a_t_rows a_t_seen a_t_plan a_t_book : Nat} {z_t_locked : Nat → Int32}
set_option maxRecDepth 100000 in
set_option maxHeartbeats 4000000 in
theorem c_X6_setLocked (l : Launch) (G : GE) (a_t a_t_facts a_t_roundsOf a_t_locked a_t_rules a_t_sizes a_t_rows a_t_seen a_t_plan a_t_book : Nat) (t_stopCount : Int32) (t_metric : Int32) (t_fixed : Int32) (t_locked : Nat → Int32) (x1 : Int32) (x2 : Int32) (z_t_locked : Nat → Int32) (hf : f_X6_setLocked t_locked x1 x2 = some z_t_locked) : CV l G yX6_setLocked kw_X6_setLocked rm_X6_setLocked [.ref a_t, .int x1, .int x2] (w_X6_setLocked G a_t a_t_facts a_t_roundsOf a_t_locked a_t_rules a_t_sizes a_t_rows a_t_seen a_t_plan a_t_book t_stopCount t_metric t_fixed t_locked) (w_X6_setLocked G a_t a_t_facts a_t_roundsOf a_t_locked a_t_rules a_t_sizes a_t_rows a_t_seen a_t_plan a_t_book t_stopCount t_metric t_fixed z_t_locked) := by
  refine en_V (cc := cX6_setLocked) (maxL := 3) (ret := none) (by decide +kernel) (Nat.le_of_ble_eq_true rfl) ?_
  intro p e s m args below meth c A ls C S hl
  have hl : lv_has ls 3 [(0, .ref a_t), (1, .int x1), (2, .int x2)] := hl
  have C : Cx p s m args meth c cX6_setLocked none 3 RX6 G A := C
  unfold f_X6_setLocked at hf
  have hx := C.1
  have hb := C.2.1
  have hown := C.2.2.2.2.1
  have hts := C.2.2.2.2.2.1
  have hN := C.2.2.2.2.2.2.2.2.2.2
  refine lv_iload_n (pc := 0) hx hb dX6_setLocked_0 rfl (lv_at hl 1 rfl) ?_
  refine lv_if_lt (tgt := 20) (pc := 1) hx hb dX6_setLocked_1 (by decide) (fun c1 => ?_) (fun c1 => ?_)
  · have hf := ifp c1 hf
    cases hf
    exact x_vret (pc := 20) C S dX6_setLocked_20
  · have hf := ifn c1 hf
    refine lv_iload_n (pc := 4) hx hb dX6_setLocked_4 rfl (lv_at hl 1 rfl) ?_
    refine lv_aload_n (pc := 5) hx hb dX6_setLocked_5 rfl (lv_at hl 0 rfl) ?_
    refine x_get (pc := 6) (ci := 6) (T := TX6) (v := .ref a_t_locked) C S 0 rfl rfl inlX6 2 (by decide) rfl qf_6_18 rfl dX6_setLocked_6 ?_
    refine x_lenZ (pc := 9) C S 1 rfl nc_16 dX6_setLocked_9 ?_
    refine lv_icmp_ge (tgt := 20) (pc := 10) hx hb dX6_setLocked_10 (by decide) (fun c2 => ?_) (fun c2 => ?_)
    · have hf := ifp c2 hf
      cases hf
      exact x_vret (pc := 20) C S dX6_setLocked_20
    · have hf := ifn c2 hf
      refine lv_aload_n (pc := 13) hx hb dX6_setLocked_13 rfl (lv_at hl 0 rfl) ?_
      refine x_get (pc := 14) (ci := 6) (T := TX6) (v := .ref a_t_locked) C S 0 rfl rfl inlX6 2 (by decide) rfl qf_6_18 rfl dX6_setLocked_14 ?_
      refine lv_iload_n (pc := 17) hx hb dX6_setLocked_17 rfl (lv_at hl 1 rfl) ?_
      refine lv_iload_n (pc := 18) hx hb dX6_setLocked_18 rfl (lv_at hl 2 rfl) ?_
      obtain ⟨hv3, hf⟩ := gI_e hf
      refine x_zast (pc := 19) (ws' := (w_X6_setLocked G a_t a_t_facts a_t_roundsOf a_t_locked a_t_rules a_t_sizes a_t_rows a_t_seen a_t_plan a_t_book t_stopCount t_metric t_fixed (upd t_locked x1.toNatClampNeg (vp_nar .boolean x2)))) C S 1 rfl hv3 rfl dX6_setLocked_19 (fun H locs S => ?_)
      cases hf
      exact x_vret (pc := 20) C S dX6_setLocked_20
end
abbrev rm_X7_refusalAt : Room := { frames := 2, cells := 0, slots := 0, locals := 41 }
abbrev kw_X7_refusalAt : Cond := .code yX7_refusalAt cX7_refusalAt 4 (some .int)
abbrev w_X7_refusalAt (G : GE) (a_t a_t_now a_t_kept a_t_thought a_t_draft a_t_filling a_t_moves a_t_text a_t_tapes a_t_now_facts a_t_now_roundsOf a_t_now_locked a_t_now_rules a_t_now_sizes a_t_now_rows a_t_now_seen a_t_now_plan a_t_now_book : Nat) (t_hasKept : Int32) (t_toldKind : Int32) (t_work : Int32) (t_now_stopCount : Int32) (t_now_metric : Int32) (t_now_fixed : Int32) (t_now_roundsOf : Nat → Int32) (t_now_sizes : Nat → Int32) : va_W := [(a_t, ob 7 [.ref a_t_now, .ref a_t_kept, .ref a_t_thought, .ref a_t_draft, .ref a_t_filling, .ref a_t_moves, .ref a_t_text, .ref a_t_tapes, .int t_hasKept, .int t_toldKind, .int t_work]), (a_t_now, ob 6 [.ref a_t_now_facts, .ref a_t_now_roundsOf, .ref a_t_now_locked, .ref a_t_now_rules, .ref a_t_now_sizes, .ref a_t_now_rows, .ref a_t_now_seen, .ref a_t_now_plan, .ref a_t_now_book, .int t_now_stopCount, .int t_now_metric, .int t_now_fixed]), (a_t_now_roundsOf, aI G 16 t_now_roundsOf), (a_t_now_sizes, aI G 4 t_now_sizes)]
theorem u_X7_refusalAt_X6_isStop_100 {s : State} {args : Array Value} (hts : ∀ w ∈ WU, w.before args s = true) : CallW rm_X7_refusalAt s args RX7 RX6 100 yX6_isStop cX6_isStop 2 (some .boolean) (kw_X6_isStop :: WU) rm_X6_isStop 0 0 1 := cwV 1 hts (gV qm_7_100 qi_X6_isStop ql_X6_isStop qn_6 qc_X6_isStop) rfl rfl rfl (by decide +kernel) ⟨Nat.le_of_ble_eq_true rfl, Nat.le_of_ble_eq_true rfl⟩
theorem u_X7_refusalAt_X7_isRound_147 {s : State} {args : Array Value} (hts : ∀ w ∈ WU, w.before args s = true) : CallB rm_X7_refusalAt s args RX7 147 yX7_isRound cX7_isRound 1 (some .boolean) (kw_X7_isRound :: WU) rm_X7_isRound 0 0 1 ∧ (Cond.static yX7_isRound).before args s = true := va_cwS 1 hts (gS qm_7_147 qs_X7_isRound qn_7 qc_X7_isRound) rfl rfl rfl (by decide +kernel) ⟨Nat.le_of_ble_eq_true rfl, Nat.le_of_ble_eq_true rfl⟩
theorem u_X7_refusalAt_X6_roundOf_115 {s : State} {args : Array Value} (hts : ∀ w ∈ WU, w.before args s = true) : CallW rm_X7_refusalAt s args RX7 RX6 115 yX6_roundOf cX6_roundOf 2 (some .int) (kw_X6_roundOf :: WU) rm_X6_roundOf 0 0 1 := cwV 1 hts (gV qm_7_115 qi_X6_roundOf ql_X6_roundOf qn_6 qc_X6_roundOf) rfl rfl rfl (by decide +kernel) ⟨Nat.le_of_ble_eq_true rfl, Nat.le_of_ble_eq_true rfl⟩
theorem u_X7_refusalAt_X6_sizeOf_195 {s : State} {args : Array Value} (hts : ∀ w ∈ WU, w.before args s = true) : CallW rm_X7_refusalAt s args RX7 RX6 195 yX6_sizeOf cX6_sizeOf 2 (some .int) (kw_X6_sizeOf :: WU) rm_X6_sizeOf 0 0 1 := cwV 1 hts (gV qm_7_195 qi_X6_sizeOf ql_X6_sizeOf qn_6 qc_X6_sizeOf) rfl rfl rfl (by decide +kernel) ⟨Nat.le_of_ble_eq_true rfl, Nat.le_of_ble_eq_true rfl⟩
theorem u_X7_refusalAt_X7_isUpTo_63 {s : State} {args : Array Value} (hts : ∀ w ∈ WU, w.before args s = true) : CallB rm_X7_refusalAt s args RX7 63 yX7_isUpTo cX7_isUpTo 2 (some .boolean) (kw_X7_isUpTo :: WU) rm_X7_isUpTo 0 0 2 ∧ (Cond.static yX7_isUpTo).before args s = true := va_cwS 2 hts (gS qm_7_63 qs_X7_isUpTo qn_7 qc_X7_isUpTo) rfl rfl rfl (by decide +kernel) ⟨Nat.le_of_ble_eq_true rfl, Nat.le_of_ble_eq_true rfl⟩
section
variable {p : Program} {l : Launch} {e : Env} {s : State} {m : MethodId} {args : Array Value} {below : List Frame} {meth : Method} {c : Code} {A : Nat → Prop} {G : GE} {a_t a_t_now a_t_kept a_t_thought a_t_draft a_t_filling a_t_moves a_t_text a_t_tapes a_t_now_facts a_t_now_roundsOf a_t_now_locked a_t_now_rules a_t_now_sizes a_t_now_rows a_t_now_seen a_t_now_plan a_t_now_book : Nat} {r : Int32}
set_option maxRecDepth 100000 in
set_option maxHeartbeats 4000000 in
theorem c_X7_refusalAt (l : Launch) (G : GE) (a_t a_t_now a_t_kept a_t_thought a_t_draft a_t_filling a_t_moves a_t_text a_t_tapes a_t_now_facts a_t_now_roundsOf a_t_now_locked a_t_now_rules a_t_now_sizes a_t_now_rows a_t_now_seen a_t_now_plan a_t_now_book : Nat) (t_hasKept : Int32) (t_toldKind : Int32) (t_work : Int32) (t_now_stopCount : Int32) (t_now_metric : Int32) (t_now_fixed : Int32) (t_now_roundsOf : Nat → Int32) (t_now_sizes : Nat → Int32) (x1 : Int32) (x2 : Int32) (x3 : Int32) (r : Int32) (hf : f_X7_refusalAt t_now_roundsOf t_now_sizes t_now_stopCount x1 x2 x3 = some r) : CI l G yX7_refusalAt kw_X7_refusalAt rm_X7_refusalAt [.ref a_t, .int x1, .int x2, .int x3] (w_X7_refusalAt G a_t a_t_now a_t_kept a_t_thought a_t_draft a_t_filling a_t_moves a_t_text a_t_tapes a_t_now_facts a_t_now_roundsOf a_t_now_locked a_t_now_rules a_t_now_sizes a_t_now_rows a_t_now_seen a_t_now_plan a_t_now_book t_hasKept t_toldKind t_work t_now_stopCount t_now_metric t_now_fixed t_now_roundsOf t_now_sizes) r (w_X7_refusalAt G a_t a_t_now a_t_kept a_t_thought a_t_draft a_t_filling a_t_moves a_t_text a_t_tapes a_t_now_facts a_t_now_roundsOf a_t_now_locked a_t_now_rules a_t_now_sizes a_t_now_rows a_t_now_seen a_t_now_plan a_t_now_book t_hasKept t_toldKind t_work t_now_stopCount t_now_metric t_now_fixed t_now_roundsOf t_now_sizes) := by
  refine en_I (cc := cX7_refusalAt) (maxL := 4) (ret := (some .int)) (by decide +kernel) (Nat.le_of_ble_eq_true rfl) ?_
  intro p e s m args below meth c A ls C S hl
  have hl : lv_has ls 4 [(0, .ref a_t), (1, .int x1), (2, .int x2), (3, .int x3)] := hl
  have C : Cx p s m args meth c cX7_refusalAt (some .int) 4 RX7 G A := C
  unfold f_X7_refusalAt at hf
  have hx := C.1
  have hb := C.2.1
  have hown := C.2.2.2.2.1
  have hts := C.2.2.2.2.2.1
  have hN := C.2.2.2.2.2.2.2.2.2.2
  refine lv_aload_n (pc := 0) hx hb dX7_refusalAt_0 rfl (lv_at hl 0 rfl) ?_
  refine x_get (pc := 1) (ci := 7) (T := TX7) (v := .ref a_t_now) C S 0 rfl rfl inlX7 0 (by decide) rfl qf_7_14 rfl dX7_refusalAt_1 ?_
  refine lv_iload_n (pc := 4) hx hb dX7_refusalAt_4 rfl (lv_at hl 1 rfl) ?_
  obtain ⟨r1, hq1, hf⟩ := bd_e hf
  refine x_vI (pc := 5) (As := [.int x1]) (rest := []) (isC := [1]) (ws' := (w_X7_refusalAt G a_t a_t_now a_t_kept a_t_thought a_t_draft a_t_filling a_t_moves a_t_text a_t_tapes a_t_now_facts a_t_now_roundsOf a_t_now_locked a_t_now_rules a_t_now_sizes a_t_now_rows a_t_now_seen a_t_now_plan a_t_now_book t_hasKept t_toldKind t_work t_now_stopCount t_now_metric t_now_fixed t_now_roundsOf t_now_sizes)) C S (c_X6_isStop l G a_t_now a_t_now_facts a_t_now_roundsOf a_t_now_locked a_t_now_rules a_t_now_sizes a_t_now_rows a_t_now_seen a_t_now_plan a_t_now_book t_now_stopCount t_now_metric t_now_fixed x1 r1 hq1) (u_X7_refusalAt_X6_isStop_100 hts) (ci := 6) rfl 1 rfl rfl rfl rfl rfl rfl hl.1 rfl (Nat.le_of_ble_eq_true rfl) dX7_refusalAt_5 (fun H locs S => ?_)
  refine lv_if_eq (tgt := 18) (pc := 8) hx hb dX7_refusalAt_8 (by decide) (fun c2 => ?_) (fun c2 => ?_)
  · have hf := ifp c2 hf
    refine lv_iconst (pc := 18) hx hb dX7_refusalAt_18 ic_m1 ?_
    cases hf
    exact x_iret (pc := 19) C S dX7_refusalAt_19
  · have hf := ifn c2 hf
    refine lv_iload_n (pc := 11) hx hb dX7_refusalAt_11 rfl (lv_at hl 2 rfl) ?_
    obtain ⟨r3, hq3, hf⟩ := bd_e hf
    refine x_sI (pc := 12) (As := [.int x2]) (rest := []) (isC := []) (ws' := (w_X7_refusalAt G a_t a_t_now a_t_kept a_t_thought a_t_draft a_t_filling a_t_moves a_t_text a_t_tapes a_t_now_facts a_t_now_roundsOf a_t_now_locked a_t_now_rules a_t_now_sizes a_t_now_rows a_t_now_seen a_t_now_plan a_t_now_book t_hasKept t_toldKind t_work t_now_stopCount t_now_metric t_now_fixed t_now_roundsOf t_now_sizes)) C S (c_X7_isRound l G x2 r3 hq3) (u_X7_refusalAt_X7_isRound_147 hts) rfl rfl rfl rfl rfl hl.1 rfl (Nat.le_of_ble_eq_true rfl) dX7_refusalAt_12 (fun H locs S => ?_)
    refine lv_if_ne (tgt := 20) (pc := 15) hx hb dX7_refusalAt_15 (by decide) (fun c4 => ?_) (fun c4 => ?_)
    · have hf := ifn c4 hf
      refine lv_aload_n (pc := 20) hx hb dX7_refusalAt_20 rfl (lv_at hl 0 rfl) ?_
      refine x_get (pc := 21) (ci := 7) (T := TX7) (v := .ref a_t_now) C S 0 rfl rfl inlX7 0 (by decide) rfl qf_7_14 rfl dX7_refusalAt_21 ?_
      refine lv_iload_n (pc := 24) hx hb dX7_refusalAt_24 rfl (lv_at hl 1 rfl) ?_
      obtain ⟨r5, hq5, hf⟩ := bd_e hf
      refine x_vI (pc := 25) (As := [.int x1]) (rest := []) (isC := [1, 2]) (ws' := (w_X7_refusalAt G a_t a_t_now a_t_kept a_t_thought a_t_draft a_t_filling a_t_moves a_t_text a_t_tapes a_t_now_facts a_t_now_roundsOf a_t_now_locked a_t_now_rules a_t_now_sizes a_t_now_rows a_t_now_seen a_t_now_plan a_t_now_book t_hasKept t_toldKind t_work t_now_stopCount t_now_metric t_now_fixed t_now_roundsOf t_now_sizes)) C S (c_X6_roundOf l G a_t_now a_t_now_facts a_t_now_roundsOf a_t_now_locked a_t_now_rules a_t_now_sizes a_t_now_rows a_t_now_seen a_t_now_plan a_t_now_book t_now_stopCount t_now_metric t_now_fixed t_now_roundsOf x1 r5 hq5) (u_X7_refusalAt_X6_roundOf_115 hts) (ci := 6) rfl 1 rfl rfl rfl rfl rfl rfl hl.1 rfl (Nat.le_of_ble_eq_true rfl) dX7_refusalAt_25 (fun H locs S => ?_)
      refine lv_bipush (pc := 28) hx hb dX7_refusalAt_28 bc_m5 ?_
      refine lv_icmp_eq (tgt := 36) (pc := 30) hx hb dX7_refusalAt_30 (by decide) (fun c6 => ?_) (fun c6 => ?_)
      · have hf := ifp c6 hf
        refine lv_iload_n (pc := 36) hx hb dX7_refusalAt_36 rfl (lv_at hl 3 rfl) ?_
        refine lv_aload_n (pc := 37) hx hb dX7_refusalAt_37 rfl (lv_at hl 0 rfl) ?_
        refine x_get (pc := 38) (ci := 7) (T := TX7) (v := .ref a_t_now) C S 0 rfl rfl inlX7 0 (by decide) rfl qf_7_14 rfl dX7_refusalAt_38 ?_
        refine lv_iload_n (pc := 41) hx hb dX7_refusalAt_41 rfl (lv_at hl 2 rfl) ?_
        obtain ⟨r7, hq7, hf⟩ := bd_e hf
        refine x_vI (pc := 42) (As := [.int x2]) (rest := [.int x3]) (isC := [1, 3]) (ws' := (w_X7_refusalAt G a_t a_t_now a_t_kept a_t_thought a_t_draft a_t_filling a_t_moves a_t_text a_t_tapes a_t_now_facts a_t_now_roundsOf a_t_now_locked a_t_now_rules a_t_now_sizes a_t_now_rows a_t_now_seen a_t_now_plan a_t_now_book t_hasKept t_toldKind t_work t_now_stopCount t_now_metric t_now_fixed t_now_roundsOf t_now_sizes)) C S (c_X6_sizeOf l G a_t_now a_t_now_facts a_t_now_roundsOf a_t_now_locked a_t_now_rules a_t_now_sizes a_t_now_rows a_t_now_seen a_t_now_plan a_t_now_book t_now_stopCount t_now_metric t_now_fixed t_now_sizes x2 r7 hq7) (u_X7_refusalAt_X6_sizeOf_195 hts) (ci := 6) rfl 1 rfl rfl rfl rfl rfl rfl hl.1 rfl (Nat.le_of_ble_eq_true rfl) dX7_refusalAt_42 (fun H locs S => ?_)
        obtain ⟨r8, hq8, hf⟩ := bd_e hf
        refine x_sI (pc := 45) (As := [.int x3, .int r7]) (rest := []) (isC := []) (ws' := (w_X7_refusalAt G a_t a_t_now a_t_kept a_t_thought a_t_draft a_t_filling a_t_moves a_t_text a_t_tapes a_t_now_facts a_t_now_roundsOf a_t_now_locked a_t_now_rules a_t_now_sizes a_t_now_rows a_t_now_seen a_t_now_plan a_t_now_book t_hasKept t_toldKind t_work t_now_stopCount t_now_metric t_now_fixed t_now_roundsOf t_now_sizes)) C S (c_X7_isUpTo l G x3 r7 r8 hq8) (u_X7_refusalAt_X7_isUpTo_63 hts) rfl rfl rfl rfl rfl hl.1 rfl (Nat.le_of_ble_eq_true rfl) dX7_refusalAt_45 (fun H locs S => ?_)
        refine lv_if_eq (tgt := 55) (pc := 48) hx hb dX7_refusalAt_48 (by decide) (fun c9 => ?_) (fun c9 => ?_)
        · have hf := ifp c9 hf
          refine lv_bipush (pc := 55) hx hb dX7_refusalAt_55 bc_m2 ?_
          cases hf
          exact x_iret (pc := 57) C S dX7_refusalAt_57
        · have hf := ifn c9 hf
          refine lv_iconst (pc := 51) hx hb dX7_refusalAt_51 ic_0 ?_
          refine lv_goto (tgt := 57) (pc := 52) hx hb dX7_refusalAt_52 (by decide) ?_
          cases hf
          exact x_iret (pc := 57) C S dX7_refusalAt_57
      · have hf := ifn c6 hf
        refine lv_bipush (pc := 33) hx hb dX7_refusalAt_33 bc_m3 ?_
        cases hf
        exact x_iret (pc := 35) C S dX7_refusalAt_35
    · have hf := ifp c4 hf
      refine lv_iconst (pc := 18) hx hb dX7_refusalAt_18 ic_m1 ?_
      cases hf
      exact x_iret (pc := 19) C S dX7_refusalAt_19
end
abbrev rm_X7_adds : Room := { frames := 3, cells := 0, slots := 0, locals := 78 }
abbrev kw_X7_adds : Cond := .code yX7_adds cX7_adds 5 (some .int)
abbrev w_X7_adds (G : GE) (a_t a_t_now a_t_kept a_t_thought a_t_draft a_t_filling a_t_moves a_t_text a_t_tapes a_t_now_facts a_t_now_roundsOf a_t_now_locked a_t_now_rules a_t_now_sizes a_t_now_rows a_t_now_seen a_t_now_plan a_t_now_book a_t_draft_row a_t_draft_comes a_t_draft_begins a_t_draft_slacks : Nat) (t_hasKept : Int32) (t_toldKind : Int32) (t_work : Int32) (t_now_stopCount : Int32) (t_now_metric : Int32) (t_now_fixed : Int32) (t_now_facts : Nat → Int32) (t_now_roundsOf : Nat → Int32) (t_now_rules : Nat → Int32) (t_now_sizes : Nat → Int32) (t_now_rows : Nat → Int32) (t_draft_round : Int32) (t_draft_size : Int32) (t_draft_back : Int32) (t_draft_loads : Int32) (t_draft_miles : Int32) (t_draft_waits : Int32) (t_draft_lateAt : Int32) (t_draft_later : Int32) (t_draft_row : Nat → Int32) (t_draft_comes : Nat → Int32) (t_draft_begins : Nat → Int32) : va_W := [(a_t, ob 7 [.ref a_t_now, .ref a_t_kept, .ref a_t_thought, .ref a_t_draft, .ref a_t_filling, .ref a_t_moves, .ref a_t_text, .ref a_t_tapes, .int t_hasKept, .int t_toldKind, .int t_work]), (a_t_now, ob 6 [.ref a_t_now_facts, .ref a_t_now_roundsOf, .ref a_t_now_locked, .ref a_t_now_rules, .ref a_t_now_sizes, .ref a_t_now_rows, .ref a_t_now_seen, .ref a_t_now_plan, .ref a_t_now_book, .int t_now_stopCount, .int t_now_metric, .int t_now_fixed]), (a_t_now_facts, aI G 102 t_now_facts), (a_t_now_roundsOf, aI G 16 t_now_roundsOf), (a_t_now_rules, aI G 12 t_now_rules), (a_t_now_sizes, aI G 4 t_now_sizes), (a_t_now_rows, aI G 64 t_now_rows), (a_t_draft, ob 0 [.ref a_t_draft_row, .ref a_t_draft_comes, .ref a_t_draft_begins, .ref a_t_draft_slacks, .int t_draft_round, .int t_draft_size, .int t_draft_back, .int t_draft_loads, .int t_draft_miles, .int t_draft_waits, .int t_draft_lateAt, .int t_draft_later]), (a_t_draft_row, aI G 16 t_draft_row), (a_t_draft_comes, aI G 16 t_draft_comes), (a_t_draft_begins, aI G 16 t_draft_begins)]
theorem u_X7_adds_X7_refusalAt_165 {s : State} {args : Array Value} (hts : ∀ w ∈ WU, w.before args s = true) : CallW rm_X7_adds s args RX7 RX7 165 yX7_refusalAt cX7_refusalAt 4 (some .int) (kw_X7_refusalAt :: WU) rm_X7_refusalAt 0 0 3 := cwV 3 hts (gV qm_7_165 qi_X7_refusalAt ql_X7_refusalAt qn_7 qc_X7_refusalAt) rfl rfl rfl (by decide +kernel) ⟨Nat.le_of_ble_eq_true rfl, Nat.le_of_ble_eq_true rfl⟩
theorem u_X7_adds_X0_load_168 {s : State} {args : Array Value} (hts : ∀ w ∈ WU, w.before args s = true) : CallW rm_X7_adds s args RX7 RX0 168 yX0_load cX0_load 4 none (kw_X0_load :: WU) rm_X0_load 0 0 2 := cwV 2 hts (gV qm_7_168 qi_X0_load ql_X0_load qn_0 qc_X0_load) rfl rfl rfl (by decide +kernel) ⟨Nat.le_of_ble_eq_true rfl, Nat.le_of_ble_eq_true rfl⟩
theorem u_X7_adds_X0_insert_172 {s : State} {args : Array Value} (hts : ∀ w ∈ WU, w.before args s = true) : CallW rm_X7_adds s args RX7 RX0 172 yX0_insert cX0_insert 4 none (kw_X0_insert :: WU) rm_X0_insert 0 0 2 := cwV 2 hts (gV qm_7_172 qi_X0_insert ql_X0_insert qn_0 qc_X0_insert) rfl rfl rfl (by decide +kernel) ⟨Nat.le_of_ble_eq_true rfl, Nat.le_of_ble_eq_true rfl⟩
theorem u_X7_adds_X0_follow_175 {s : State} {args : Array Value} (hts : ∀ w ∈ WU, w.before args s = true) : CallW rm_X7_adds s args RX7 RX0 175 yX0_follow cX0_follow 9 (some .boolean) (kw_X0_follow :: WU) rm_X0_follow 0 0 2 := cwV 2 hts (gV qm_7_175 qi_X0_follow ql_X0_follow qn_0 qc_X0_follow) rfl rfl rfl (by decide +kernel) ⟨Nat.le_of_ble_eq_true rfl, Nat.le_of_ble_eq_true rfl⟩
theorem u_X7_adds_X6_addsAt_179 {s : State} {args : Array Value} (hts : ∀ w ∈ WU, w.before args s = true) : CallW rm_X7_adds s args RX7 RX6 179 yX6_addsAt cX6_addsAt 7 (some .int) (kw_X6_addsAt :: WU) rm_X6_addsAt 0 0 3 := cwV 3 hts (gV qm_7_179 qi_X6_addsAt ql_X6_addsAt qn_6 qc_X6_addsAt) rfl rfl rfl (by decide +kernel) ⟨Nat.le_of_ble_eq_true rfl, Nat.le_of_ble_eq_true rfl⟩
section
variable {p : Program} {l : Launch} {e : Env} {s : State} {m : MethodId} {args : Array Value} {below : List Frame} {meth : Method} {c : Code} {A : Nat → Prop} {G : GE} {a_t a_t_now a_t_kept a_t_thought a_t_draft a_t_filling a_t_moves a_t_text a_t_tapes a_t_now_facts a_t_now_roundsOf a_t_now_locked a_t_now_rules a_t_now_sizes a_t_now_rows a_t_now_seen a_t_now_plan a_t_now_book a_t_draft_row a_t_draft_comes a_t_draft_begins a_t_draft_slacks : Nat} {r : Int32} {z_t_draft_row : Nat → Int32} {z_t_draft_comes : Nat → Int32} {z_t_draft_begins : Nat → Int32} {z_t_draft_round : Int32} {z_t_draft_size : Int32} {z_t_draft_back : Int32} {z_t_draft_loads : Int32} {z_t_draft_miles : Int32} {z_t_draft_waits : Int32} {z_t_draft_lateAt : Int32}
set_option maxRecDepth 100000 in
set_option maxHeartbeats 4000000 in
theorem c_X7_adds (l : Launch) (G : GE) (a_t a_t_now a_t_kept a_t_thought a_t_draft a_t_filling a_t_moves a_t_text a_t_tapes a_t_now_facts a_t_now_roundsOf a_t_now_locked a_t_now_rules a_t_now_sizes a_t_now_rows a_t_now_seen a_t_now_plan a_t_now_book a_t_draft_row a_t_draft_comes a_t_draft_begins a_t_draft_slacks : Nat) (t_hasKept : Int32) (t_toldKind : Int32) (t_work : Int32) (t_now_stopCount : Int32) (t_now_metric : Int32) (t_now_fixed : Int32) (t_now_facts : Nat → Int32) (t_now_roundsOf : Nat → Int32) (t_now_rules : Nat → Int32) (t_now_sizes : Nat → Int32) (t_now_rows : Nat → Int32) (t_draft_round : Int32) (t_draft_size : Int32) (t_draft_back : Int32) (t_draft_loads : Int32) (t_draft_miles : Int32) (t_draft_waits : Int32) (t_draft_lateAt : Int32) (t_draft_later : Int32) (t_draft_row : Nat → Int32) (t_draft_comes : Nat → Int32) (t_draft_begins : Nat → Int32) (x1 : Int32) (x2 : Int32) (x3 : Int32) (r : Int32) (z_t_draft_row : Nat → Int32) (z_t_draft_comes : Nat → Int32) (z_t_draft_begins : Nat → Int32) (z_t_draft_round : Int32) (z_t_draft_size : Int32) (z_t_draft_back : Int32) (z_t_draft_loads : Int32) (z_t_draft_miles : Int32) (z_t_draft_waits : Int32) (z_t_draft_lateAt : Int32) (hf : f_X7_adds t_now_facts t_now_roundsOf t_now_rules t_now_sizes t_now_rows t_now_stopCount t_now_metric t_now_fixed t_draft_row t_draft_comes t_draft_begins t_draft_round t_draft_size t_draft_back t_draft_loads t_draft_miles t_draft_waits t_draft_lateAt x1 x2 x3 = some (r, z_t_draft_row, z_t_draft_comes, z_t_draft_begins, z_t_draft_round, z_t_draft_size, z_t_draft_back, z_t_draft_loads, z_t_draft_miles, z_t_draft_waits, z_t_draft_lateAt)) : CI l G yX7_adds kw_X7_adds rm_X7_adds [.ref a_t, .int x1, .int x2, .int x3] (w_X7_adds G a_t a_t_now a_t_kept a_t_thought a_t_draft a_t_filling a_t_moves a_t_text a_t_tapes a_t_now_facts a_t_now_roundsOf a_t_now_locked a_t_now_rules a_t_now_sizes a_t_now_rows a_t_now_seen a_t_now_plan a_t_now_book a_t_draft_row a_t_draft_comes a_t_draft_begins a_t_draft_slacks t_hasKept t_toldKind t_work t_now_stopCount t_now_metric t_now_fixed t_now_facts t_now_roundsOf t_now_rules t_now_sizes t_now_rows t_draft_round t_draft_size t_draft_back t_draft_loads t_draft_miles t_draft_waits t_draft_lateAt t_draft_later t_draft_row t_draft_comes t_draft_begins) r (w_X7_adds G a_t a_t_now a_t_kept a_t_thought a_t_draft a_t_filling a_t_moves a_t_text a_t_tapes a_t_now_facts a_t_now_roundsOf a_t_now_locked a_t_now_rules a_t_now_sizes a_t_now_rows a_t_now_seen a_t_now_plan a_t_now_book a_t_draft_row a_t_draft_comes a_t_draft_begins a_t_draft_slacks t_hasKept t_toldKind t_work t_now_stopCount t_now_metric t_now_fixed t_now_facts t_now_roundsOf t_now_rules t_now_sizes t_now_rows z_t_draft_round z_t_draft_size z_t_draft_back z_t_draft_loads z_t_draft_miles z_t_draft_waits z_t_draft_lateAt t_draft_later z_t_draft_row z_t_draft_comes z_t_draft_begins) := by
  refine en_I (cc := cX7_adds) (maxL := 5) (ret := (some .int)) (by decide +kernel) (Nat.le_of_ble_eq_true rfl) ?_
  intro p e s m args below meth c A ls C S hl
  have hl : lv_has ls 5 [(0, .ref a_t), (1, .int x1), (2, .int x2), (3, .int x3)] := hl
  have C : Cx p s m args meth c cX7_adds (some .int) 5 RX7 G A := C
  unfold f_X7_adds at hf
  have hx := C.1
  have hb := C.2.1
  have hown := C.2.2.2.2.1
  have hts := C.2.2.2.2.2.1
  have hN := C.2.2.2.2.2.2.2.2.2.2
  refine lv_aload_n (pc := 0) hx hb dX7_adds_0 rfl (lv_at hl 0 rfl) ?_
  refine lv_iload_n (pc := 1) hx hb dX7_adds_1 rfl (lv_at hl 1 rfl) ?_
  refine lv_iload_n (pc := 2) hx hb dX7_adds_2 rfl (lv_at hl 2 rfl) ?_
  refine lv_iload_n (pc := 3) hx hb dX7_adds_3 rfl (lv_at hl 3 rfl) ?_
  obtain ⟨r1, hq1, hf⟩ := bd_e hf
  refine x_vI (pc := 4) (As := [.int x1, .int x2, .int x3]) (rest := []) (isC := [0, 1, 3, 5]) (ws' := (w_X7_adds G a_t a_t_now a_t_kept a_t_thought a_t_draft a_t_filling a_t_moves a_t_text a_t_tapes a_t_now_facts a_t_now_roundsOf a_t_now_locked a_t_now_rules a_t_now_sizes a_t_now_rows a_t_now_seen a_t_now_plan a_t_now_book a_t_draft_row a_t_draft_comes a_t_draft_begins a_t_draft_slacks t_hasKept t_toldKind t_work t_now_stopCount t_now_metric t_now_fixed t_now_facts t_now_roundsOf t_now_rules t_now_sizes t_now_rows t_draft_round t_draft_size t_draft_back t_draft_loads t_draft_miles t_draft_waits t_draft_lateAt t_draft_later t_draft_row t_draft_comes t_draft_begins)) C S (c_X7_refusalAt l G a_t a_t_now a_t_kept a_t_thought a_t_draft a_t_filling a_t_moves a_t_text a_t_tapes a_t_now_facts a_t_now_roundsOf a_t_now_locked a_t_now_rules a_t_now_sizes a_t_now_rows a_t_now_seen a_t_now_plan a_t_now_book t_hasKept t_toldKind t_work t_now_stopCount t_now_metric t_now_fixed t_now_roundsOf t_now_sizes x1 x2 x3 r1 hq1) (u_X7_adds_X7_refusalAt_165 hts) (ci := 7) rfl 0 rfl rfl rfl rfl rfl rfl hl.1 rfl (Nat.le_of_ble_eq_true rfl) dX7_adds_4 (fun H locs S => ?_)
  refine lv_istore (pc := 7) (lv' := [(4, .int r1), (0, .ref a_t), (1, .int x1), (2, .int x2), (3, .int x3)]) hx hb dX7_adds_7 hl (by decide) rfl (fun ls hl => ?_)
  refine lv_iload (pc := 9) hx hb dX7_adds_9 (lv_at hl 0 rfl) ?_
  refine lv_if_eq (tgt := 17) (pc := 11) hx hb dX7_adds_11 (by decide) (fun c2 => ?_) (fun c2 => ?_)
  · have hf := ifp c2 hf
    refine lv_aload_n (pc := 17) hx hb dX7_adds_17 rfl (lv_at hl 1 rfl) ?_
    refine x_get (pc := 18) (ci := 7) (T := TX7) (v := .ref a_t_draft) C S 0 rfl rfl inlX7 3 (by decide) rfl qf_7_27 rfl dX7_adds_18 ?_
    refine lv_aload_n (pc := 21) hx hb dX7_adds_21 rfl (lv_at hl 1 rfl) ?_
    refine x_get (pc := 22) (ci := 7) (T := TX7) (v := .ref a_t_now) C S 0 rfl rfl inlX7 0 (by decide) rfl qf_7_14 rfl dX7_adds_22 ?_
    refine lv_iload_n (pc := 25) hx hb dX7_adds_25 rfl (lv_at hl 3 rfl) ?_
    obtain ⟨⟨o3_t_draft_row, o3_t_draft_round, o3_t_draft_size⟩, hq3, hf⟩ := bd_e hf
    refine x_vV (pc := 26) (As := [.ref a_t_now, .int x2]) (rest := []) (isC := [7, 8, 1, 5, 6]) (ws' := (w_X7_adds G a_t a_t_now a_t_kept a_t_thought a_t_draft a_t_filling a_t_moves a_t_text a_t_tapes a_t_now_facts a_t_now_roundsOf a_t_now_locked a_t_now_rules a_t_now_sizes a_t_now_rows a_t_now_seen a_t_now_plan a_t_now_book a_t_draft_row a_t_draft_comes a_t_draft_begins a_t_draft_slacks t_hasKept t_toldKind t_work t_now_stopCount t_now_metric t_now_fixed t_now_facts t_now_roundsOf t_now_rules t_now_sizes t_now_rows o3_t_draft_round o3_t_draft_size t_draft_back t_draft_loads t_draft_miles t_draft_waits t_draft_lateAt t_draft_later o3_t_draft_row t_draft_comes t_draft_begins)) C S (c_X0_load l G a_t_draft a_t_draft_row a_t_draft_comes a_t_draft_begins a_t_draft_slacks a_t_now a_t_now_facts a_t_now_roundsOf a_t_now_locked a_t_now_rules a_t_now_sizes a_t_now_rows a_t_now_seen a_t_now_plan a_t_now_book t_draft_round t_draft_size t_draft_back t_draft_loads t_draft_miles t_draft_waits t_draft_lateAt t_draft_later t_draft_row t_now_stopCount t_now_metric t_now_fixed t_now_sizes t_now_rows x2 o3_t_draft_row o3_t_draft_round o3_t_draft_size hq3) (u_X7_adds_X0_load_168 hts) (ci := 0) rfl 7 rfl rfl rfl rfl rfl rfl hl.1 rfl (Nat.le_of_ble_eq_true rfl) dX7_adds_26 (fun H locs S => ?_)
    refine lv_aload_n (pc := 29) hx hb dX7_adds_29 rfl (lv_at hl 1 rfl) ?_
    refine x_get (pc := 30) (ci := 7) (T := TX7) (v := .ref a_t_draft) C S 0 rfl rfl inlX7 3 (by decide) rfl qf_7_27 rfl dX7_adds_30 ?_
    refine lv_iload_n (pc := 33) hx hb dX7_adds_33 rfl (lv_at hl 4 rfl) ?_
    refine lv_iload_n (pc := 34) hx hb dX7_adds_34 rfl (lv_at hl 2 rfl) ?_
    obtain ⟨⟨o4_t_draft_row, o4_t_draft_size⟩, hq4, hf⟩ := bd_e hf
    refine x_vV (pc := 35) (As := [.int x3, .int x1]) (rest := []) (isC := [7, 8]) (ws' := (w_X7_adds G a_t a_t_now a_t_kept a_t_thought a_t_draft a_t_filling a_t_moves a_t_text a_t_tapes a_t_now_facts a_t_now_roundsOf a_t_now_locked a_t_now_rules a_t_now_sizes a_t_now_rows a_t_now_seen a_t_now_plan a_t_now_book a_t_draft_row a_t_draft_comes a_t_draft_begins a_t_draft_slacks t_hasKept t_toldKind t_work t_now_stopCount t_now_metric t_now_fixed t_now_facts t_now_roundsOf t_now_rules t_now_sizes t_now_rows o3_t_draft_round o4_t_draft_size t_draft_back t_draft_loads t_draft_miles t_draft_waits t_draft_lateAt t_draft_later o4_t_draft_row t_draft_comes t_draft_begins)) C S (c_X0_insert l G a_t_draft a_t_draft_row a_t_draft_comes a_t_draft_begins a_t_draft_slacks o3_t_draft_round o3_t_draft_size t_draft_back t_draft_loads t_draft_miles t_draft_waits t_draft_lateAt t_draft_later o3_t_draft_row x3 x1 o4_t_draft_row o4_t_draft_size hq4) (u_X7_adds_X0_insert_172 hts) (ci := 0) rfl 7 rfl rfl rfl rfl rfl rfl hl.1 rfl (Nat.le_of_ble_eq_true rfl) dX7_adds_35 (fun H locs S => ?_)
    refine lv_aload_n (pc := 38) hx hb dX7_adds_38 rfl (lv_at hl 1 rfl) ?_
    refine x_get (pc := 39) (ci := 7) (T := TX7) (v := .ref a_t_draft) C S 0 rfl rfl inlX7 3 (by decide) rfl qf_7_27 rfl dX7_adds_39 ?_
    refine lv_aload_n (pc := 42) hx hb dX7_adds_42 rfl (lv_at hl 1 rfl) ?_
    refine x_get (pc := 43) (ci := 7) (T := TX7) (v := .ref a_t_now) C S 0 rfl rfl inlX7 0 (by decide) rfl qf_7_14 rfl dX7_adds_43 ?_
    refine lv_iconst (pc := 46) hx hb dX7_adds_46 ic_0 ?_
    obtain ⟨⟨r5, o5_t_draft_comes, o5_t_draft_begins, o5_t_draft_back, o5_t_draft_loads, o5_t_draft_miles, o5_t_draft_waits, o5_t_draft_lateAt⟩, hq5, hf⟩ := bd_e hf
    refine x_vI (pc := 47) (As := [.ref a_t_now, .int (0 : Int32)]) (rest := []) (isC := [7, 8, 9, 10, 1, 2, 4]) (ws' := (w_X7_adds G a_t a_t_now a_t_kept a_t_thought a_t_draft a_t_filling a_t_moves a_t_text a_t_tapes a_t_now_facts a_t_now_roundsOf a_t_now_locked a_t_now_rules a_t_now_sizes a_t_now_rows a_t_now_seen a_t_now_plan a_t_now_book a_t_draft_row a_t_draft_comes a_t_draft_begins a_t_draft_slacks t_hasKept t_toldKind t_work t_now_stopCount t_now_metric t_now_fixed t_now_facts t_now_roundsOf t_now_rules t_now_sizes t_now_rows o3_t_draft_round o4_t_draft_size o5_t_draft_back o5_t_draft_loads o5_t_draft_miles o5_t_draft_waits o5_t_draft_lateAt t_draft_later o4_t_draft_row o5_t_draft_comes o5_t_draft_begins)) C S (c_X0_follow l G a_t_draft a_t_draft_row a_t_draft_comes a_t_draft_begins a_t_draft_slacks a_t_now a_t_now_facts a_t_now_roundsOf a_t_now_locked a_t_now_rules a_t_now_sizes a_t_now_rows a_t_now_seen a_t_now_plan a_t_now_book o3_t_draft_round o4_t_draft_size t_draft_back t_draft_loads t_draft_miles t_draft_waits t_draft_lateAt t_draft_later o4_t_draft_row t_draft_comes t_draft_begins t_now_stopCount t_now_metric t_now_fixed t_now_facts t_now_rules (0 : Int32) r5 o5_t_draft_comes o5_t_draft_begins o5_t_draft_back o5_t_draft_loads o5_t_draft_miles o5_t_draft_waits o5_t_draft_lateAt hq5) (u_X7_adds_X0_follow_175 hts) (ci := 0) rfl 7 rfl rfl rfl rfl rfl rfl hl.1 rfl (Nat.le_of_ble_eq_true rfl) dX7_adds_47 (fun H locs S => ?_)
    refine lv_if_eq (tgt := 66) (pc := 50) hx hb dX7_adds_50 (by decide) (fun c6 => ?_) (fun c6 => ?_)
    · have hf := ifp c6 hf
      refine lv_bipush (pc := 66) hx hb dX7_adds_66 bc_m5 ?_
      cases hf
      exact x_iret (pc := 68) C S dX7_adds_68
    · have hf := ifn c6 hf
      refine lv_aload_n (pc := 53) hx hb dX7_adds_53 rfl (lv_at hl 1 rfl) ?_
      refine x_get (pc := 54) (ci := 7) (T := TX7) (v := .ref a_t_now) C S 0 rfl rfl inlX7 0 (by decide) rfl qf_7_14 rfl dX7_adds_54 ?_
      refine lv_iload_n (pc := 57) hx hb dX7_adds_57 rfl (lv_at hl 2 rfl) ?_
      refine lv_iload_n (pc := 58) hx hb dX7_adds_58 rfl (lv_at hl 3 rfl) ?_
      refine lv_iload_n (pc := 59) hx hb dX7_adds_59 rfl (lv_at hl 4 rfl) ?_
      obtain ⟨r7, hq7, hf⟩ := bd_e hf
      refine x_vI (pc := 60) (As := [.int x1, .int x2, .int x3]) (rest := []) (isC := [1, 2, 5, 6]) (ws' := (w_X7_adds G a_t a_t_now a_t_kept a_t_thought a_t_draft a_t_filling a_t_moves a_t_text a_t_tapes a_t_now_facts a_t_now_roundsOf a_t_now_locked a_t_now_rules a_t_now_sizes a_t_now_rows a_t_now_seen a_t_now_plan a_t_now_book a_t_draft_row a_t_draft_comes a_t_draft_begins a_t_draft_slacks t_hasKept t_toldKind t_work t_now_stopCount t_now_metric t_now_fixed t_now_facts t_now_roundsOf t_now_rules t_now_sizes t_now_rows o3_t_draft_round o4_t_draft_size o5_t_draft_back o5_t_draft_loads o5_t_draft_miles o5_t_draft_waits o5_t_draft_lateAt t_draft_later o4_t_draft_row o5_t_draft_comes o5_t_draft_begins)) C S (c_X6_addsAt l G a_t_now a_t_now_facts a_t_now_roundsOf a_t_now_locked a_t_now_rules a_t_now_sizes a_t_now_rows a_t_now_seen a_t_now_plan a_t_now_book t_now_stopCount t_now_metric t_now_fixed t_now_facts t_now_sizes t_now_rows x1 x2 x3 r7 hq7) (u_X7_adds_X6_addsAt_179 hts) (ci := 6) rfl 1 rfl rfl rfl rfl rfl rfl hl.1 rfl (Nat.le_of_ble_eq_true rfl) dX7_adds_60 (fun H locs S => ?_)
      refine lv_goto (tgt := 68) (pc := 63) hx hb dX7_adds_63 (by decide) ?_
      cases hf
      exact x_iret (pc := 68) C S dX7_adds_68
  · have hf := ifn c2 hf
    refine lv_iload (pc := 14) hx hb dX7_adds_14 (lv_at hl 0 rfl) ?_
    cases hf
    exact x_iret (pc := 16) C S dX7_adds_16
end
abbrev rm_X7_holds : Room := { frames := 3, cells := 0, slots := 0, locals := 78 }
abbrev kw_X7_holds : Cond := .code yX7_holds cX7_holds 2 (some .boolean)
abbrev w_X7_holds (G : GE) (a_t a_t_now a_t_kept a_t_thought a_t_draft a_t_filling a_t_moves a_t_text a_t_tapes a_t_now_facts a_t_now_roundsOf a_t_now_locked a_t_now_rules a_t_now_sizes a_t_now_rows a_t_now_seen a_t_now_plan a_t_now_book a_t_draft_row a_t_draft_comes a_t_draft_begins a_t_draft_slacks : Nat) (t_hasKept : Int32) (t_toldKind : Int32) (t_work : Int32) (t_now_stopCount : Int32) (t_now_metric : Int32) (t_now_fixed : Int32) (t_now_facts : Nat → Int32) (t_now_rules : Nat → Int32) (t_now_sizes : Nat → Int32) (t_now_rows : Nat → Int32) (t_draft_round : Int32) (t_draft_size : Int32) (t_draft_back : Int32) (t_draft_loads : Int32) (t_draft_miles : Int32) (t_draft_waits : Int32) (t_draft_lateAt : Int32) (t_draft_later : Int32) (t_draft_row : Nat → Int32) (t_draft_comes : Nat → Int32) (t_draft_begins : Nat → Int32) : va_W := [(a_t, ob 7 [.ref a_t_now, .ref a_t_kept, .ref a_t_thought, .ref a_t_draft, .ref a_t_filling, .ref a_t_moves, .ref a_t_text, .ref a_t_tapes, .int t_hasKept, .int t_toldKind, .int t_work]), (a_t_now, ob 6 [.ref a_t_now_facts, .ref a_t_now_roundsOf, .ref a_t_now_locked, .ref a_t_now_rules, .ref a_t_now_sizes, .ref a_t_now_rows, .ref a_t_now_seen, .ref a_t_now_plan, .ref a_t_now_book, .int t_now_stopCount, .int t_now_metric, .int t_now_fixed]), (a_t_now_facts, aI G 102 t_now_facts), (a_t_now_rules, aI G 12 t_now_rules), (a_t_now_sizes, aI G 4 t_now_sizes), (a_t_now_rows, aI G 64 t_now_rows), (a_t_draft, ob 0 [.ref a_t_draft_row, .ref a_t_draft_comes, .ref a_t_draft_begins, .ref a_t_draft_slacks, .int t_draft_round, .int t_draft_size, .int t_draft_back, .int t_draft_loads, .int t_draft_miles, .int t_draft_waits, .int t_draft_lateAt, .int t_draft_later]), (a_t_draft_row, aI G 16 t_draft_row), (a_t_draft_comes, aI G 16 t_draft_comes), (a_t_draft_begins, aI G 16 t_draft_begins)]
theorem u_X7_holds_X7_isRound_147 {s : State} {args : Array Value} (hts : ∀ w ∈ WU, w.before args s = true) : CallB rm_X7_holds s args RX7 147 yX7_isRound cX7_isRound 1 (some .boolean) (kw_X7_isRound :: WU) rm_X7_isRound 0 0 1 ∧ (Cond.static yX7_isRound).before args s = true := va_cwS 1 hts (gS qm_7_147 qs_X7_isRound qn_7 qc_X7_isRound) rfl rfl rfl (by decide +kernel) ⟨Nat.le_of_ble_eq_true rfl, Nat.le_of_ble_eq_true rfl⟩
theorem u_X7_holds_X0_load_168 {s : State} {args : Array Value} (hts : ∀ w ∈ WU, w.before args s = true) : CallW rm_X7_holds s args RX7 RX0 168 yX0_load cX0_load 4 none (kw_X0_load :: WU) rm_X0_load 0 0 2 := cwV 2 hts (gV qm_7_168 qi_X0_load ql_X0_load qn_0 qc_X0_load) rfl rfl rfl (by decide +kernel) ⟨Nat.le_of_ble_eq_true rfl, Nat.le_of_ble_eq_true rfl⟩
theorem u_X7_holds_X0_follow_175 {s : State} {args : Array Value} (hts : ∀ w ∈ WU, w.before args s = true) : CallW rm_X7_holds s args RX7 RX0 175 yX0_follow cX0_follow 9 (some .boolean) (kw_X0_follow :: WU) rm_X0_follow 0 0 2 := cwV 2 hts (gV qm_7_175 qi_X0_follow ql_X0_follow qn_0 qc_X0_follow) rfl rfl rfl (by decide +kernel) ⟨Nat.le_of_ble_eq_true rfl, Nat.le_of_ble_eq_true rfl⟩
section
variable {p : Program} {l : Launch} {e : Env} {s : State} {m : MethodId} {args : Array Value} {below : List Frame} {meth : Method} {c : Code} {A : Nat → Prop} {G : GE} {a_t a_t_now a_t_kept a_t_thought a_t_draft a_t_filling a_t_moves a_t_text a_t_tapes a_t_now_facts a_t_now_roundsOf a_t_now_locked a_t_now_rules a_t_now_sizes a_t_now_rows a_t_now_seen a_t_now_plan a_t_now_book a_t_draft_row a_t_draft_comes a_t_draft_begins a_t_draft_slacks : Nat} {r : Int32} {z_t_draft_row : Nat → Int32} {z_t_draft_comes : Nat → Int32} {z_t_draft_begins : Nat → Int32} {z_t_draft_round : Int32} {z_t_draft_size : Int32} {z_t_draft_back : Int32} {z_t_draft_loads : Int32} {z_t_draft_miles : Int32} {z_t_draft_waits : Int32} {z_t_draft_lateAt : Int32}
set_option maxRecDepth 100000 in
set_option maxHeartbeats 4000000 in
theorem c_X7_holds (l : Launch) (G : GE) (a_t a_t_now a_t_kept a_t_thought a_t_draft a_t_filling a_t_moves a_t_text a_t_tapes a_t_now_facts a_t_now_roundsOf a_t_now_locked a_t_now_rules a_t_now_sizes a_t_now_rows a_t_now_seen a_t_now_plan a_t_now_book a_t_draft_row a_t_draft_comes a_t_draft_begins a_t_draft_slacks : Nat) (t_hasKept : Int32) (t_toldKind : Int32) (t_work : Int32) (t_now_stopCount : Int32) (t_now_metric : Int32) (t_now_fixed : Int32) (t_now_facts : Nat → Int32) (t_now_rules : Nat → Int32) (t_now_sizes : Nat → Int32) (t_now_rows : Nat → Int32) (t_draft_round : Int32) (t_draft_size : Int32) (t_draft_back : Int32) (t_draft_loads : Int32) (t_draft_miles : Int32) (t_draft_waits : Int32) (t_draft_lateAt : Int32) (t_draft_later : Int32) (t_draft_row : Nat → Int32) (t_draft_comes : Nat → Int32) (t_draft_begins : Nat → Int32) (x1 : Int32) (r : Int32) (z_t_draft_row : Nat → Int32) (z_t_draft_comes : Nat → Int32) (z_t_draft_begins : Nat → Int32) (z_t_draft_round : Int32) (z_t_draft_size : Int32) (z_t_draft_back : Int32) (z_t_draft_loads : Int32) (z_t_draft_miles : Int32) (z_t_draft_waits : Int32) (z_t_draft_lateAt : Int32) (hf : f_X7_holds t_now_facts t_now_rules t_now_sizes t_now_rows t_now_metric t_draft_row t_draft_comes t_draft_begins t_draft_round t_draft_size t_draft_back t_draft_loads t_draft_miles t_draft_waits t_draft_lateAt x1 = some (r, z_t_draft_row, z_t_draft_comes, z_t_draft_begins, z_t_draft_round, z_t_draft_size, z_t_draft_back, z_t_draft_loads, z_t_draft_miles, z_t_draft_waits, z_t_draft_lateAt)) : CI l G yX7_holds kw_X7_holds rm_X7_holds [.ref a_t, .int x1] (w_X7_holds G a_t a_t_now a_t_kept a_t_thought a_t_draft a_t_filling a_t_moves a_t_text a_t_tapes a_t_now_facts a_t_now_roundsOf a_t_now_locked a_t_now_rules a_t_now_sizes a_t_now_rows a_t_now_seen a_t_now_plan a_t_now_book a_t_draft_row a_t_draft_comes a_t_draft_begins a_t_draft_slacks t_hasKept t_toldKind t_work t_now_stopCount t_now_metric t_now_fixed t_now_facts t_now_rules t_now_sizes t_now_rows t_draft_round t_draft_size t_draft_back t_draft_loads t_draft_miles t_draft_waits t_draft_lateAt t_draft_later t_draft_row t_draft_comes t_draft_begins) r (w_X7_holds G a_t a_t_now a_t_kept a_t_thought a_t_draft a_t_filling a_t_moves a_t_text a_t_tapes a_t_now_facts a_t_now_roundsOf a_t_now_locked a_t_now_rules a_t_now_sizes a_t_now_rows a_t_now_seen a_t_now_plan a_t_now_book a_t_draft_row a_t_draft_comes a_t_draft_begins a_t_draft_slacks t_hasKept t_toldKind t_work t_now_stopCount t_now_metric t_now_fixed t_now_facts t_now_rules t_now_sizes t_now_rows z_t_draft_round z_t_draft_size z_t_draft_back z_t_draft_loads z_t_draft_miles z_t_draft_waits z_t_draft_lateAt t_draft_later z_t_draft_row z_t_draft_comes z_t_draft_begins) := by
  refine en_I (cc := cX7_holds) (maxL := 2) (ret := (some .boolean)) (by decide +kernel) (Nat.le_of_ble_eq_true rfl) ?_
  intro p e s m args below meth c A ls C S hl
  have hl : lv_has ls 2 [(0, .ref a_t), (1, .int x1)] := hl
  have C : Cx p s m args meth c cX7_holds (some .boolean) 2 RX7 G A := C
  unfold f_X7_holds at hf
  have hx := C.1
  have hb := C.2.1
  have hown := C.2.2.2.2.1
  have hts := C.2.2.2.2.2.1
  have hN := C.2.2.2.2.2.2.2.2.2.2
  refine lv_iload_n (pc := 0) hx hb dX7_holds_0 rfl (lv_at hl 1 rfl) ?_
  obtain ⟨r1, hq1, hf⟩ := bd_e hf
  refine x_sI (pc := 1) (As := [.int x1]) (rest := []) (isC := []) (ws' := (w_X7_holds G a_t a_t_now a_t_kept a_t_thought a_t_draft a_t_filling a_t_moves a_t_text a_t_tapes a_t_now_facts a_t_now_roundsOf a_t_now_locked a_t_now_rules a_t_now_sizes a_t_now_rows a_t_now_seen a_t_now_plan a_t_now_book a_t_draft_row a_t_draft_comes a_t_draft_begins a_t_draft_slacks t_hasKept t_toldKind t_work t_now_stopCount t_now_metric t_now_fixed t_now_facts t_now_rules t_now_sizes t_now_rows t_draft_round t_draft_size t_draft_back t_draft_loads t_draft_miles t_draft_waits t_draft_lateAt t_draft_later t_draft_row t_draft_comes t_draft_begins)) C S (c_X7_isRound l G x1 r1 hq1) (u_X7_holds_X7_isRound_147 hts) rfl rfl rfl rfl rfl hl.1 rfl (Nat.le_of_ble_eq_true rfl) dX7_holds_1 (fun H locs S => ?_)
  refine lv_if_ne (tgt := 9) (pc := 4) hx hb dX7_holds_4 (by decide) (fun c2 => ?_) (fun c2 => ?_)
  · have hf := ifn c2 hf
    refine lv_aload_n (pc := 9) hx hb dX7_holds_9 rfl (lv_at hl 0 rfl) ?_
    refine x_get (pc := 10) (ci := 7) (T := TX7) (v := .ref a_t_draft) C S 0 rfl rfl inlX7 3 (by decide) rfl qf_7_27 rfl dX7_holds_10 ?_
    refine lv_aload_n (pc := 13) hx hb dX7_holds_13 rfl (lv_at hl 0 rfl) ?_
    refine x_get (pc := 14) (ci := 7) (T := TX7) (v := .ref a_t_now) C S 0 rfl rfl inlX7 0 (by decide) rfl qf_7_14 rfl dX7_holds_14 ?_
    refine lv_iload_n (pc := 17) hx hb dX7_holds_17 rfl (lv_at hl 1 rfl) ?_
    obtain ⟨⟨o3_t_draft_row, o3_t_draft_round, o3_t_draft_size⟩, hq3, hf⟩ := bd_e hf
    refine x_vV (pc := 18) (As := [.ref a_t_now, .int x1]) (rest := []) (isC := [6, 7, 1, 4, 5]) (ws' := (w_X7_holds G a_t a_t_now a_t_kept a_t_thought a_t_draft a_t_filling a_t_moves a_t_text a_t_tapes a_t_now_facts a_t_now_roundsOf a_t_now_locked a_t_now_rules a_t_now_sizes a_t_now_rows a_t_now_seen a_t_now_plan a_t_now_book a_t_draft_row a_t_draft_comes a_t_draft_begins a_t_draft_slacks t_hasKept t_toldKind t_work t_now_stopCount t_now_metric t_now_fixed t_now_facts t_now_rules t_now_sizes t_now_rows o3_t_draft_round o3_t_draft_size t_draft_back t_draft_loads t_draft_miles t_draft_waits t_draft_lateAt t_draft_later o3_t_draft_row t_draft_comes t_draft_begins)) C S (c_X0_load l G a_t_draft a_t_draft_row a_t_draft_comes a_t_draft_begins a_t_draft_slacks a_t_now a_t_now_facts a_t_now_roundsOf a_t_now_locked a_t_now_rules a_t_now_sizes a_t_now_rows a_t_now_seen a_t_now_plan a_t_now_book t_draft_round t_draft_size t_draft_back t_draft_loads t_draft_miles t_draft_waits t_draft_lateAt t_draft_later t_draft_row t_now_stopCount t_now_metric t_now_fixed t_now_sizes t_now_rows x1 o3_t_draft_row o3_t_draft_round o3_t_draft_size hq3) (u_X7_holds_X0_load_168 hts) (ci := 0) rfl 6 rfl rfl rfl rfl rfl rfl hl.1 rfl (Nat.le_of_ble_eq_true rfl) dX7_holds_18 (fun H locs S => ?_)
    refine lv_aload_n (pc := 21) hx hb dX7_holds_21 rfl (lv_at hl 0 rfl) ?_
    refine x_get (pc := 22) (ci := 7) (T := TX7) (v := .ref a_t_draft) C S 0 rfl rfl inlX7 3 (by decide) rfl qf_7_27 rfl dX7_holds_22 ?_
    refine lv_aload_n (pc := 25) hx hb dX7_holds_25 rfl (lv_at hl 0 rfl) ?_
    refine x_get (pc := 26) (ci := 7) (T := TX7) (v := .ref a_t_now) C S 0 rfl rfl inlX7 0 (by decide) rfl qf_7_14 rfl dX7_holds_26 ?_
    refine lv_iconst (pc := 29) hx hb dX7_holds_29 ic_0 ?_
    obtain ⟨⟨r4, o4_t_draft_comes, o4_t_draft_begins, o4_t_draft_back, o4_t_draft_loads, o4_t_draft_miles, o4_t_draft_waits, o4_t_draft_lateAt⟩, hq4, hf⟩ := bd_e hf
    refine x_vI (pc := 30) (As := [.ref a_t_now, .int (0 : Int32)]) (rest := []) (isC := [6, 7, 8, 9, 1, 2, 3]) (ws' := (w_X7_holds G a_t a_t_now a_t_kept a_t_thought a_t_draft a_t_filling a_t_moves a_t_text a_t_tapes a_t_now_facts a_t_now_roundsOf a_t_now_locked a_t_now_rules a_t_now_sizes a_t_now_rows a_t_now_seen a_t_now_plan a_t_now_book a_t_draft_row a_t_draft_comes a_t_draft_begins a_t_draft_slacks t_hasKept t_toldKind t_work t_now_stopCount t_now_metric t_now_fixed t_now_facts t_now_rules t_now_sizes t_now_rows o3_t_draft_round o3_t_draft_size o4_t_draft_back o4_t_draft_loads o4_t_draft_miles o4_t_draft_waits o4_t_draft_lateAt t_draft_later o3_t_draft_row o4_t_draft_comes o4_t_draft_begins)) C S (c_X0_follow l G a_t_draft a_t_draft_row a_t_draft_comes a_t_draft_begins a_t_draft_slacks a_t_now a_t_now_facts a_t_now_roundsOf a_t_now_locked a_t_now_rules a_t_now_sizes a_t_now_rows a_t_now_seen a_t_now_plan a_t_now_book o3_t_draft_round o3_t_draft_size t_draft_back t_draft_loads t_draft_miles t_draft_waits t_draft_lateAt t_draft_later o3_t_draft_row t_draft_comes t_draft_begins t_now_stopCount t_now_metric t_now_fixed t_now_facts t_now_rules (0 : Int32) r4 o4_t_draft_comes o4_t_draft_begins o4_t_draft_back o4_t_draft_loads o4_t_draft_miles o4_t_draft_waits o4_t_draft_lateAt hq4) (u_X7_holds_X0_follow_175 hts) (ci := 0) rfl 6 rfl rfl rfl rfl rfl rfl hl.1 rfl (Nat.le_of_ble_eq_true rfl) dX7_holds_30 (fun H locs S => ?_)
    obtain ⟨hz5, hf⟩ := gd_e hf
    cases hf
    exact x_zret (pc := 33) hz5 C S dX7_holds_33
  · have hf := ifp c2 hf
    refine lv_iconst (pc := 7) hx hb dX7_holds_7 ic_1 ?_
    cases hf
    exact x_zret (pc := 8) (by decide) C S dX7_holds_8
end
abbrev rm_X7_allHold : Room := { frames := 4, cells := 0, slots := 0, locals := 99 }
abbrev kw_X7_allHold : Cond := .code yX7_allHold cX7_allHold 2 (some .boolean)
abbrev w_X7_allHold (G : GE) (a_t a_t_now a_t_kept a_t_thought a_t_draft a_t_filling a_t_moves a_t_text a_t_tapes a_t_now_facts a_t_now_roundsOf a_t_now_locked a_t_now_rules a_t_now_sizes a_t_now_rows a_t_now_seen a_t_now_plan a_t_now_book a_t_draft_row a_t_draft_comes a_t_draft_begins a_t_draft_slacks : Nat) (t_hasKept : Int32) (t_toldKind : Int32) (t_work : Int32) (t_now_stopCount : Int32) (t_now_metric : Int32) (t_now_fixed : Int32) (t_now_facts : Nat → Int32) (t_now_rules : Nat → Int32) (t_now_sizes : Nat → Int32) (t_now_rows : Nat → Int32) (t_draft_round : Int32) (t_draft_size : Int32) (t_draft_back : Int32) (t_draft_loads : Int32) (t_draft_miles : Int32) (t_draft_waits : Int32) (t_draft_lateAt : Int32) (t_draft_later : Int32) (t_draft_row : Nat → Int32) (t_draft_comes : Nat → Int32) (t_draft_begins : Nat → Int32) : va_W := [(a_t, ob 7 [.ref a_t_now, .ref a_t_kept, .ref a_t_thought, .ref a_t_draft, .ref a_t_filling, .ref a_t_moves, .ref a_t_text, .ref a_t_tapes, .int t_hasKept, .int t_toldKind, .int t_work]), (a_t_now, ob 6 [.ref a_t_now_facts, .ref a_t_now_roundsOf, .ref a_t_now_locked, .ref a_t_now_rules, .ref a_t_now_sizes, .ref a_t_now_rows, .ref a_t_now_seen, .ref a_t_now_plan, .ref a_t_now_book, .int t_now_stopCount, .int t_now_metric, .int t_now_fixed]), (a_t_now_facts, aI G 102 t_now_facts), (a_t_now_rules, aI G 12 t_now_rules), (a_t_now_sizes, aI G 4 t_now_sizes), (a_t_now_rows, aI G 64 t_now_rows), (a_t_draft, ob 0 [.ref a_t_draft_row, .ref a_t_draft_comes, .ref a_t_draft_begins, .ref a_t_draft_slacks, .int t_draft_round, .int t_draft_size, .int t_draft_back, .int t_draft_loads, .int t_draft_miles, .int t_draft_waits, .int t_draft_lateAt, .int t_draft_later]), (a_t_draft_row, aI G 16 t_draft_row), (a_t_draft_comes, aI G 16 t_draft_comes), (a_t_draft_begins, aI G 16 t_draft_begins)]
theorem u_X7_allHold_X7_holds_118 {s : State} {args : Array Value} (hts : ∀ w ∈ WU, w.before args s = true) : CallW rm_X7_allHold s args RX7 RX7 118 yX7_holds cX7_holds 2 (some .boolean) (kw_X7_holds :: WU) rm_X7_holds 0 0 1 := cwV 1 hts (gV qm_7_118 qi_X7_holds ql_X7_holds qn_7 qc_X7_holds) rfl rfl rfl (by decide +kernel) ⟨Nat.le_of_ble_eq_true rfl, Nat.le_of_ble_eq_true rfl⟩
section
variable {p : Program} {l : Launch} {e : Env} {s : State} {m : MethodId} {args : Array Value} {below : List Frame} {meth : Method} {c : Code} {A : Nat → Prop} {G : GE} {a_t a_t_now a_t_kept a_t_thought a_t_draft a_t_filling a_t_moves a_t_text a_t_tapes a_t_now_facts a_t_now_roundsOf a_t_now_locked a_t_now_rules a_t_now_sizes a_t_now_rows a_t_now_seen a_t_now_plan a_t_now_book a_t_draft_row a_t_draft_comes a_t_draft_begins a_t_draft_slacks : Nat} {r : Int32} {z_t_draft_row : Nat → Int32} {z_t_draft_comes : Nat → Int32} {z_t_draft_begins : Nat → Int32} {z_t_draft_round : Int32} {z_t_draft_size : Int32} {z_t_draft_back : Int32} {z_t_draft_loads : Int32} {z_t_draft_miles : Int32} {z_t_draft_waits : Int32} {z_t_draft_lateAt : Int32}
set_option maxRecDepth 100000 in
set_option maxHeartbeats 4000000 in
theorem k_X7_allHold_2 (C : Cx p s m args meth c cX7_allHold (some .boolean) 2 RX7 G A) (t_hasKept : Int32) (t_toldKind : Int32) (t_work : Int32) (t_now_stopCount : Int32) (t_now_metric : Int32) (t_now_fixed : Int32) (t_now_facts : Nat → Int32) (t_now_rules : Nat → Int32) (t_now_sizes : Nat → Int32) (t_now_rows : Nat → Int32) (t_draft_round : Int32) (t_draft_size : Int32) (t_draft_back : Int32) (t_draft_loads : Int32) (t_draft_miles : Int32) (t_draft_waits : Int32) (t_draft_lateAt : Int32) (t_draft_later : Int32) (t_draft_row : Nat → Int32) (t_draft_comes : Nat → Int32) (t_draft_begins : Nat → Int32) (x1 : Int32) (k2 : Int32 × (Nat → Int32) × (Nat → Int32) × (Nat → Int32) × Int32 × Int32 × Int32 × Int32 × Int32 × Int32 × Int32 → Option (Int32 × (Nat → Int32) × (Nat → Int32) × (Nat → Int32) × Int32 × Int32 × Int32 × Int32 × Int32 × Int32 × Int32)) (hk2 : ∀ {H : Heap} {locs : List Loc} {ls : Array Slot} (x1' : Int32) (t_draft_row' : Nat → Int32) (t_draft_comes' : Nat → Int32) (t_draft_begins' : Nat → Int32) (t_draft_round' : Int32) (t_draft_size' : Int32) (t_draft_back' : Int32) (t_draft_loads' : Int32) (t_draft_miles' : Int32) (t_draft_waits' : Int32) (t_draft_lateAt' : Int32), k2 (x1', t_draft_row', t_draft_comes', t_draft_begins', t_draft_round', t_draft_size', t_draft_back', t_draft_loads', t_draft_miles', t_draft_waits', t_draft_lateAt') = some (r, z_t_draft_row, z_t_draft_comes, z_t_draft_begins, z_t_draft_round, z_t_draft_size, z_t_draft_back, z_t_draft_loads, z_t_draft_miles, z_t_draft_waits, z_t_draft_lateAt) → St G A s.heap H locs (w_X7_allHold G a_t a_t_now a_t_kept a_t_thought a_t_draft a_t_filling a_t_moves a_t_text a_t_tapes a_t_now_facts a_t_now_roundsOf a_t_now_locked a_t_now_rules a_t_now_sizes a_t_now_rows a_t_now_seen a_t_now_plan a_t_now_book a_t_draft_row a_t_draft_comes a_t_draft_begins a_t_draft_slacks t_hasKept t_toldKind t_work t_now_stopCount t_now_metric t_now_fixed t_now_facts t_now_rules t_now_sizes t_now_rows t_draft_round' t_draft_size' t_draft_back' t_draft_loads' t_draft_miles' t_draft_waits' t_draft_lateAt' t_draft_later t_draft_row' t_draft_comes' t_draft_begins') → lv_has ls 2 [(0, .ref a_t), (1, .int x1')] → W p l e rm_X7_allHold s m args below meth c H locs 0 0 (QI G below args s A r (w_X7_allHold G a_t a_t_now a_t_kept a_t_thought a_t_draft a_t_filling a_t_moves a_t_text a_t_tapes a_t_now_facts a_t_now_roundsOf a_t_now_locked a_t_now_rules a_t_now_sizes a_t_now_rows a_t_now_seen a_t_now_plan a_t_now_book a_t_draft_row a_t_draft_comes a_t_draft_begins a_t_draft_slacks t_hasKept t_toldKind t_work t_now_stopCount t_now_metric t_now_fixed t_now_facts t_now_rules t_now_sizes t_now_rows z_t_draft_round z_t_draft_size z_t_draft_back z_t_draft_loads z_t_draft_miles z_t_draft_waits z_t_draft_lateAt t_draft_later z_t_draft_row z_t_draft_comes z_t_draft_begins)) (F0 m 2 ls [])) {H : Heap} {locs : List Loc} {ls : Array Slot} (hf : b_X7_allHold_2 t_now_facts t_now_rules t_now_sizes t_now_rows t_now_metric k2 x1 t_draft_row t_draft_comes t_draft_begins t_draft_round t_draft_size t_draft_back t_draft_loads t_draft_miles t_draft_waits t_draft_lateAt = some (r, z_t_draft_row, z_t_draft_comes, z_t_draft_begins, z_t_draft_round, z_t_draft_size, z_t_draft_back, z_t_draft_loads, z_t_draft_miles, z_t_draft_waits, z_t_draft_lateAt)) (S : St G A s.heap H locs (w_X7_allHold G a_t a_t_now a_t_kept a_t_thought a_t_draft a_t_filling a_t_moves a_t_text a_t_tapes a_t_now_facts a_t_now_roundsOf a_t_now_locked a_t_now_rules a_t_now_sizes a_t_now_rows a_t_now_seen a_t_now_plan a_t_now_book a_t_draft_row a_t_draft_comes a_t_draft_begins a_t_draft_slacks t_hasKept t_toldKind t_work t_now_stopCount t_now_metric t_now_fixed t_now_facts t_now_rules t_now_sizes t_now_rows t_draft_round t_draft_size t_draft_back t_draft_loads t_draft_miles t_draft_waits t_draft_lateAt t_draft_later t_draft_row t_draft_comes t_draft_begins)) (hl : lv_has ls 2 [(0, .ref a_t), (1, .int x1)]) : W p l e rm_X7_allHold s m args below meth c H locs 0 0 (QI G below args s A r (w_X7_allHold G a_t a_t_now a_t_kept a_t_thought a_t_draft a_t_filling a_t_moves a_t_text a_t_tapes a_t_now_facts a_t_now_roundsOf a_t_now_locked a_t_now_rules a_t_now_sizes a_t_now_rows a_t_now_seen a_t_now_plan a_t_now_book a_t_draft_row a_t_draft_comes a_t_draft_begins a_t_draft_slacks t_hasKept t_toldKind t_work t_now_stopCount t_now_metric t_now_fixed t_now_facts t_now_rules t_now_sizes t_now_rows z_t_draft_round z_t_draft_size z_t_draft_back z_t_draft_loads z_t_draft_miles z_t_draft_waits z_t_draft_lateAt t_draft_later z_t_draft_row z_t_draft_comes z_t_draft_begins)) (F0 m 2 ls []) := by
  unfold b_X7_allHold_2 at hf
  have hx := C.1
  have hb := C.2.1
  have hown := C.2.2.2.2.1
  have hts := C.2.2.2.2.2.1
  have hN := C.2.2.2.2.2.2.2.2.2.2
  refine lv_iload_n (pc := 2) hx hb dX7_allHold_2 rfl (lv_at hl 1 rfl) ?_
  refine lv_iconst (pc := 3) hx hb dX7_allHold_3 ic_4 ?_
  refine lv_icmp_ge (tgt := 23) (pc := 4) hx hb dX7_allHold_4 (by decide) (fun c1 => ?_) (fun c1 => ?_)
  · have hf := ifp c1 hf
    refine lv_iconst (pc := 23) hx hb dX7_allHold_23 ic_1 ?_
    cases hf
    exact x_zret (pc := 24) (by decide) C S dX7_allHold_24
  · have hf := ifn c1 hf
    refine lv_aload_n (pc := 7) hx hb dX7_allHold_7 rfl (lv_at hl 0 rfl) ?_
    refine lv_iload_n (pc := 8) hx hb dX7_allHold_8 rfl (lv_at hl 1 rfl) ?_
    obtain ⟨⟨r2, o2_t_draft_row, o2_t_draft_comes, o2_t_draft_begins, o2_t_draft_round, o2_t_draft_size, o2_t_draft_back, o2_t_draft_loads, o2_t_draft_miles, o2_t_draft_waits, o2_t_draft_lateAt⟩, hq2, hf⟩ := bd_e hf
    refine x_vI (pc := 9) (As := [.int x1]) (rest := []) (isC := [0, 1, 2, 3, 4, 5, 6, 7, 8, 9]) (ws' := (w_X7_allHold G a_t a_t_now a_t_kept a_t_thought a_t_draft a_t_filling a_t_moves a_t_text a_t_tapes a_t_now_facts a_t_now_roundsOf a_t_now_locked a_t_now_rules a_t_now_sizes a_t_now_rows a_t_now_seen a_t_now_plan a_t_now_book a_t_draft_row a_t_draft_comes a_t_draft_begins a_t_draft_slacks t_hasKept t_toldKind t_work t_now_stopCount t_now_metric t_now_fixed t_now_facts t_now_rules t_now_sizes t_now_rows o2_t_draft_round o2_t_draft_size o2_t_draft_back o2_t_draft_loads o2_t_draft_miles o2_t_draft_waits o2_t_draft_lateAt t_draft_later o2_t_draft_row o2_t_draft_comes o2_t_draft_begins)) C S (c_X7_holds l G a_t a_t_now a_t_kept a_t_thought a_t_draft a_t_filling a_t_moves a_t_text a_t_tapes a_t_now_facts a_t_now_roundsOf a_t_now_locked a_t_now_rules a_t_now_sizes a_t_now_rows a_t_now_seen a_t_now_plan a_t_now_book a_t_draft_row a_t_draft_comes a_t_draft_begins a_t_draft_slacks t_hasKept t_toldKind t_work t_now_stopCount t_now_metric t_now_fixed t_now_facts t_now_rules t_now_sizes t_now_rows t_draft_round t_draft_size t_draft_back t_draft_loads t_draft_miles t_draft_waits t_draft_lateAt t_draft_later t_draft_row t_draft_comes t_draft_begins x1 r2 o2_t_draft_row o2_t_draft_comes o2_t_draft_begins o2_t_draft_round o2_t_draft_size o2_t_draft_back o2_t_draft_loads o2_t_draft_miles o2_t_draft_waits o2_t_draft_lateAt hq2) (u_X7_allHold_X7_holds_118 hts) (ci := 7) rfl 0 rfl rfl rfl rfl rfl rfl hl.1 rfl (Nat.le_of_ble_eq_true rfl) dX7_allHold_9 (fun H locs S => ?_)
    refine lv_if_ne (tgt := 17) (pc := 12) hx hb dX7_allHold_12 (by decide) (fun c3 => ?_) (fun c3 => ?_)
    · have hf := ifn c3 hf
      refine lv_iinc (pc := 17) (v := (x1 + (1 : Int32))) (lv' := [(1, .int (x1 + (1 : Int32))), (0, .ref a_t)]) hx hb dX7_allHold_17 hl (k := 1) rfl (congrArg (fun z => x1 + z) ic_1) (by decide) rfl (fun ls hl => ?_)
      refine lv_goto (tgt := 2) (pc := 20) hx hb dX7_allHold_20 (by decide) ?_
      exact hk2 ((x1 + (1 : Int32))) (o2_t_draft_row) (o2_t_draft_comes) (o2_t_draft_begins) (o2_t_draft_round) (o2_t_draft_size) (o2_t_draft_back) (o2_t_draft_loads) (o2_t_draft_miles) (o2_t_draft_waits) (o2_t_draft_lateAt)  hf S (lv_sub hl [1, 0] rfl)
    · have hf := ifp c3 hf
      refine lv_iconst (pc := 15) hx hb dX7_allHold_15 ic_0 ?_
      cases hf
      exact x_zret (pc := 16) (by decide) C S dX7_allHold_16
set_option maxRecDepth 100000 in
set_option maxHeartbeats 4000000 in
theorem h_X7_allHold_2 (C : Cx p s m args meth c cX7_allHold (some .boolean) 2 RX7 G A) (t_hasKept : Int32) (t_toldKind : Int32) (t_work : Int32) (t_now_stopCount : Int32) (t_now_metric : Int32) (t_now_fixed : Int32) (t_now_facts : Nat → Int32) (t_now_rules : Nat → Int32) (t_now_sizes : Nat → Int32) (t_now_rows : Nat → Int32) (t_draft_later : Int32) (n : Nat) (x : Int32 × (Nat → Int32) × (Nat → Int32) × (Nat → Int32) × Int32 × Int32 × Int32 × Int32 × Int32 × Int32 × Int32) (hf : lp (fun k x => b_X7_allHold_2 t_now_facts t_now_rules t_now_sizes t_now_rows t_now_metric k x.1 x.2.1 x.2.2.1 x.2.2.2.1 x.2.2.2.2.1 x.2.2.2.2.2.1 x.2.2.2.2.2.2.1 x.2.2.2.2.2.2.2.1 x.2.2.2.2.2.2.2.2.1 x.2.2.2.2.2.2.2.2.2.1 x.2.2.2.2.2.2.2.2.2.2) n x = some (r, z_t_draft_row, z_t_draft_comes, z_t_draft_begins, z_t_draft_round, z_t_draft_size, z_t_draft_back, z_t_draft_loads, z_t_draft_miles, z_t_draft_waits, z_t_draft_lateAt)) {H : Heap} {locs : List Loc} {ls : Array Slot} (S : St G A s.heap H locs (w_X7_allHold G a_t a_t_now a_t_kept a_t_thought a_t_draft a_t_filling a_t_moves a_t_text a_t_tapes a_t_now_facts a_t_now_roundsOf a_t_now_locked a_t_now_rules a_t_now_sizes a_t_now_rows a_t_now_seen a_t_now_plan a_t_now_book a_t_draft_row a_t_draft_comes a_t_draft_begins a_t_draft_slacks t_hasKept t_toldKind t_work t_now_stopCount t_now_metric t_now_fixed t_now_facts t_now_rules t_now_sizes t_now_rows x.2.2.2.2.1 x.2.2.2.2.2.1 x.2.2.2.2.2.2.1 x.2.2.2.2.2.2.2.1 x.2.2.2.2.2.2.2.2.1 x.2.2.2.2.2.2.2.2.2.1 x.2.2.2.2.2.2.2.2.2.2 t_draft_later x.2.1 x.2.2.1 x.2.2.2.1)) (hl : lv_has ls 2 [(0, .ref a_t), (1, .int x.1)]) : W p l e rm_X7_allHold s m args below meth c H locs 0 0 (QI G below args s A r (w_X7_allHold G a_t a_t_now a_t_kept a_t_thought a_t_draft a_t_filling a_t_moves a_t_text a_t_tapes a_t_now_facts a_t_now_roundsOf a_t_now_locked a_t_now_rules a_t_now_sizes a_t_now_rows a_t_now_seen a_t_now_plan a_t_now_book a_t_draft_row a_t_draft_comes a_t_draft_begins a_t_draft_slacks t_hasKept t_toldKind t_work t_now_stopCount t_now_metric t_now_fixed t_now_facts t_now_rules t_now_sizes t_now_rows z_t_draft_round z_t_draft_size z_t_draft_back z_t_draft_loads z_t_draft_miles z_t_draft_waits z_t_draft_lateAt t_draft_later z_t_draft_row z_t_draft_comes z_t_draft_begins)) (F0 m 2 ls []) :=
  lp_ind (P := fun x => ∀ {H : Heap} {locs : List Loc} {ls : Array Slot}, St G A s.heap H locs (w_X7_allHold G a_t a_t_now a_t_kept a_t_thought a_t_draft a_t_filling a_t_moves a_t_text a_t_tapes a_t_now_facts a_t_now_roundsOf a_t_now_locked a_t_now_rules a_t_now_sizes a_t_now_rows a_t_now_seen a_t_now_plan a_t_now_book a_t_draft_row a_t_draft_comes a_t_draft_begins a_t_draft_slacks t_hasKept t_toldKind t_work t_now_stopCount t_now_metric t_now_fixed t_now_facts t_now_rules t_now_sizes t_now_rows x.2.2.2.2.1 x.2.2.2.2.2.1 x.2.2.2.2.2.2.1 x.2.2.2.2.2.2.2.1 x.2.2.2.2.2.2.2.2.1 x.2.2.2.2.2.2.2.2.2.1 x.2.2.2.2.2.2.2.2.2.2 t_draft_later x.2.1 x.2.2.1 x.2.2.2.1) → lv_has ls 2 [(0, .ref a_t), (1, .int x.1)] → W p l e rm_X7_allHold s m args below meth c H locs 0 0 (QI G below args s A r (w_X7_allHold G a_t a_t_now a_t_kept a_t_thought a_t_draft a_t_filling a_t_moves a_t_text a_t_tapes a_t_now_facts a_t_now_roundsOf a_t_now_locked a_t_now_rules a_t_now_sizes a_t_now_rows a_t_now_seen a_t_now_plan a_t_now_book a_t_draft_row a_t_draft_comes a_t_draft_begins a_t_draft_slacks t_hasKept t_toldKind t_work t_now_stopCount t_now_metric t_now_fixed t_now_facts t_now_rules t_now_sizes t_now_rows z_t_draft_round z_t_draft_size z_t_draft_back z_t_draft_loads z_t_draft_miles z_t_draft_waits z_t_draft_lateAt t_draft_later z_t_draft_row z_t_draft_comes z_t_draft_begins)) (F0 m 2 ls [])) (fun k hk x hf _ _ _ S hl => k_X7_allHold_2 C t_hasKept t_toldKind t_work t_now_stopCount t_now_metric t_now_fixed t_now_facts t_now_rules t_now_sizes t_now_rows x.2.2.2.2.1 x.2.2.2.2.2.1 x.2.2.2.2.2.2.1 x.2.2.2.2.2.2.2.1 x.2.2.2.2.2.2.2.2.1 x.2.2.2.2.2.2.2.2.2.1 x.2.2.2.2.2.2.2.2.2.2 t_draft_later x.2.1 x.2.2.1 x.2.2.2.1 x.1  k (fun x1' t_draft_row' t_draft_comes' t_draft_begins' t_draft_round' t_draft_size' t_draft_back' t_draft_loads' t_draft_miles' t_draft_waits' t_draft_lateAt'  h S hl => hk (x1', t_draft_row', t_draft_comes', t_draft_begins', t_draft_round', t_draft_size', t_draft_back', t_draft_loads', t_draft_miles', t_draft_waits', t_draft_lateAt') h S hl) hf S hl) n x hf S hl
set_option maxRecDepth 100000 in
set_option maxHeartbeats 4000000 in
theorem c_X7_allHold (l : Launch) (G : GE) (a_t a_t_now a_t_kept a_t_thought a_t_draft a_t_filling a_t_moves a_t_text a_t_tapes a_t_now_facts a_t_now_roundsOf a_t_now_locked a_t_now_rules a_t_now_sizes a_t_now_rows a_t_now_seen a_t_now_plan a_t_now_book a_t_draft_row a_t_draft_comes a_t_draft_begins a_t_draft_slacks : Nat) (t_hasKept : Int32) (t_toldKind : Int32) (t_work : Int32) (t_now_stopCount : Int32) (t_now_metric : Int32) (t_now_fixed : Int32) (t_now_facts : Nat → Int32) (t_now_rules : Nat → Int32) (t_now_sizes : Nat → Int32) (t_now_rows : Nat → Int32) (t_draft_round : Int32) (t_draft_size : Int32) (t_draft_back : Int32) (t_draft_loads : Int32) (t_draft_miles : Int32) (t_draft_waits : Int32) (t_draft_lateAt : Int32) (t_draft_later : Int32) (t_draft_row : Nat → Int32) (t_draft_comes : Nat → Int32) (t_draft_begins : Nat → Int32) (r : Int32) (z_t_draft_row : Nat → Int32) (z_t_draft_comes : Nat → Int32) (z_t_draft_begins : Nat → Int32) (z_t_draft_round : Int32) (z_t_draft_size : Int32) (z_t_draft_back : Int32) (z_t_draft_loads : Int32) (z_t_draft_miles : Int32) (z_t_draft_waits : Int32) (z_t_draft_lateAt : Int32) (hf : f_X7_allHold t_now_facts t_now_rules t_now_sizes t_now_rows t_now_metric t_draft_row t_draft_comes t_draft_begins t_draft_round t_draft_size t_draft_back t_draft_loads t_draft_miles t_draft_waits t_draft_lateAt = some (r, z_t_draft_row, z_t_draft_comes, z_t_draft_begins, z_t_draft_round, z_t_draft_size, z_t_draft_back, z_t_draft_loads, z_t_draft_miles, z_t_draft_waits, z_t_draft_lateAt)) : CI l G yX7_allHold kw_X7_allHold rm_X7_allHold [.ref a_t] (w_X7_allHold G a_t a_t_now a_t_kept a_t_thought a_t_draft a_t_filling a_t_moves a_t_text a_t_tapes a_t_now_facts a_t_now_roundsOf a_t_now_locked a_t_now_rules a_t_now_sizes a_t_now_rows a_t_now_seen a_t_now_plan a_t_now_book a_t_draft_row a_t_draft_comes a_t_draft_begins a_t_draft_slacks t_hasKept t_toldKind t_work t_now_stopCount t_now_metric t_now_fixed t_now_facts t_now_rules t_now_sizes t_now_rows t_draft_round t_draft_size t_draft_back t_draft_loads t_draft_miles t_draft_waits t_draft_lateAt t_draft_later t_draft_row t_draft_comes t_draft_begins) r (w_X7_allHold G a_t a_t_now a_t_kept a_t_thought a_t_draft a_t_filling a_t_moves a_t_text a_t_tapes a_t_now_facts a_t_now_roundsOf a_t_now_locked a_t_now_rules a_t_now_sizes a_t_now_rows a_t_now_seen a_t_now_plan a_t_now_book a_t_draft_row a_t_draft_comes a_t_draft_begins a_t_draft_slacks t_hasKept t_toldKind t_work t_now_stopCount t_now_metric t_now_fixed t_now_facts t_now_rules t_now_sizes t_now_rows z_t_draft_round z_t_draft_size z_t_draft_back z_t_draft_loads z_t_draft_miles z_t_draft_waits z_t_draft_lateAt t_draft_later z_t_draft_row z_t_draft_comes z_t_draft_begins) := by
  refine en_I (cc := cX7_allHold) (maxL := 2) (ret := (some .boolean)) (by decide +kernel) (Nat.le_of_ble_eq_true rfl) ?_
  intro p e s m args below meth c A ls C S hl
  have hl : lv_has ls 2 [(0, .ref a_t)] := hl
  have C : Cx p s m args meth c cX7_allHold (some .boolean) 2 RX7 G A := C
  unfold f_X7_allHold at hf
  have hx := C.1
  have hb := C.2.1
  have hown := C.2.2.2.2.1
  have hts := C.2.2.2.2.2.1
  have hN := C.2.2.2.2.2.2.2.2.2.2
  refine lv_iconst (pc := 0) hx hb dX7_allHold_0 ic_0 ?_
  refine lv_istore_n (pc := 1) (lv' := [(1, .int (0 : Int32)), (0, .ref a_t)]) hx hb dX7_allHold_1 rfl hl (by decide) rfl (fun ls hl => ?_)
  exact h_X7_allHold_2 C (t_hasKept) (t_toldKind) (t_work) (t_now_stopCount) (t_now_metric) (t_now_fixed) (t_now_facts) (t_now_rules) (t_now_sizes) (t_now_rows) (t_draft_later) fu ((0 : Int32), t_draft_row, t_draft_comes, t_draft_begins, t_draft_round, t_draft_size, t_draft_back, t_draft_loads, t_draft_miles, t_draft_waits, t_draft_lateAt) hf S (lv_sub hl [1, 0] rfl)
end
abbrev rm_X7_at : Room := { frames := 2, cells := 0, slots := 0, locals := 44 }
abbrev kw_X7_at : Cond := .code yX7_at cX7_at 3 (some .int)
abbrev w_X7_at (G : GE) (a_t a_t_now a_t_kept a_t_thought a_t_draft a_t_filling a_t_moves a_t_text a_t_tapes a_t_now_facts a_t_now_roundsOf a_t_now_locked a_t_now_rules a_t_now_sizes a_t_now_rows a_t_now_seen a_t_now_plan a_t_now_book : Nat) (t_hasKept : Int32) (t_toldKind : Int32) (t_work : Int32) (t_now_stopCount : Int32) (t_now_metric : Int32) (t_now_fixed : Int32) (t_now_sizes : Nat → Int32) (t_now_rows : Nat → Int32) : va_W := [(a_t, ob 7 [.ref a_t_now, .ref a_t_kept, .ref a_t_thought, .ref a_t_draft, .ref a_t_filling, .ref a_t_moves, .ref a_t_text, .ref a_t_tapes, .int t_hasKept, .int t_toldKind, .int t_work]), (a_t_now, ob 6 [.ref a_t_now_facts, .ref a_t_now_roundsOf, .ref a_t_now_locked, .ref a_t_now_rules, .ref a_t_now_sizes, .ref a_t_now_rows, .ref a_t_now_seen, .ref a_t_now_plan, .ref a_t_now_book, .int t_now_stopCount, .int t_now_metric, .int t_now_fixed]), (a_t_now_sizes, aI G 4 t_now_sizes), (a_t_now_rows, aI G 64 t_now_rows)]
theorem u_X7_at_X7_isRound_147 {s : State} {args : Array Value} (hts : ∀ w ∈ WU, w.before args s = true) : CallB rm_X7_at s args RX7 147 yX7_isRound cX7_isRound 1 (some .boolean) (kw_X7_isRound :: WU) rm_X7_isRound 0 0 1 ∧ (Cond.static yX7_isRound).before args s = true := va_cwS 1 hts (gS qm_7_147 qs_X7_isRound qn_7 qc_X7_isRound) rfl rfl rfl (by decide +kernel) ⟨Nat.le_of_ble_eq_true rfl, Nat.le_of_ble_eq_true rfl⟩
theorem u_X7_at_X6_sizeOf_195 {s : State} {args : Array Value} (hts : ∀ w ∈ WU, w.before args s = true) : CallW rm_X7_at s args RX7 RX6 195 yX6_sizeOf cX6_sizeOf 2 (some .int) (kw_X6_sizeOf :: WU) rm_X6_sizeOf 0 0 1 := cwV 1 hts (gV qm_7_195 qi_X6_sizeOf ql_X6_sizeOf qn_6 qc_X6_sizeOf) rfl rfl rfl (by decide +kernel) ⟨Nat.le_of_ble_eq_true rfl, Nat.le_of_ble_eq_true rfl⟩
theorem u_X7_at_X6_rowAt_236 {s : State} {args : Array Value} (hts : ∀ w ∈ WU, w.before args s = true) : CallW rm_X7_at s args RX7 RX6 236 yX6_rowAt cX6_rowAt 4 (some .int) (kw_X6_rowAt :: WU) rm_X6_rowAt 0 0 2 := cwV 2 hts (gV qm_7_236 qi_X6_rowAt ql_X6_rowAt qn_6 qc_X6_rowAt) rfl rfl rfl (by decide +kernel) ⟨Nat.le_of_ble_eq_true rfl, Nat.le_of_ble_eq_true rfl⟩
section
variable {p : Program} {l : Launch} {e : Env} {s : State} {m : MethodId} {args : Array Value} {below : List Frame} {meth : Method} {c : Code} {A : Nat → Prop} {G : GE} {a_t a_t_now a_t_kept a_t_thought a_t_draft a_t_filling a_t_moves a_t_text a_t_tapes a_t_now_facts a_t_now_roundsOf a_t_now_locked a_t_now_rules a_t_now_sizes a_t_now_rows a_t_now_seen a_t_now_plan a_t_now_book : Nat} {r : Int32}
set_option maxRecDepth 100000 in
set_option maxHeartbeats 4000000 in
theorem c_X7_at (l : Launch) (G : GE) (a_t a_t_now a_t_kept a_t_thought a_t_draft a_t_filling a_t_moves a_t_text a_t_tapes a_t_now_facts a_t_now_roundsOf a_t_now_locked a_t_now_rules a_t_now_sizes a_t_now_rows a_t_now_seen a_t_now_plan a_t_now_book : Nat) (t_hasKept : Int32) (t_toldKind : Int32) (t_work : Int32) (t_now_stopCount : Int32) (t_now_metric : Int32) (t_now_fixed : Int32) (t_now_sizes : Nat → Int32) (t_now_rows : Nat → Int32) (x1 : Int32) (x2 : Int32) (r : Int32) (hf : f_X7_at t_now_sizes t_now_rows x1 x2 = some r) : CI l G yX7_at kw_X7_at rm_X7_at [.ref a_t, .int x1, .int x2] (w_X7_at G a_t a_t_now a_t_kept a_t_thought a_t_draft a_t_filling a_t_moves a_t_text a_t_tapes a_t_now_facts a_t_now_roundsOf a_t_now_locked a_t_now_rules a_t_now_sizes a_t_now_rows a_t_now_seen a_t_now_plan a_t_now_book t_hasKept t_toldKind t_work t_now_stopCount t_now_metric t_now_fixed t_now_sizes t_now_rows) r (w_X7_at G a_t a_t_now a_t_kept a_t_thought a_t_draft a_t_filling a_t_moves a_t_text a_t_tapes a_t_now_facts a_t_now_roundsOf a_t_now_locked a_t_now_rules a_t_now_sizes a_t_now_rows a_t_now_seen a_t_now_plan a_t_now_book t_hasKept t_toldKind t_work t_now_stopCount t_now_metric t_now_fixed t_now_sizes t_now_rows) := by
  refine en_I (cc := cX7_at) (maxL := 3) (ret := (some .int)) (by decide +kernel) (Nat.le_of_ble_eq_true rfl) ?_
  intro p e s m args below meth c A ls C S hl
  have hl : lv_has ls 3 [(0, .ref a_t), (1, .int x1), (2, .int x2)] := hl
  have C : Cx p s m args meth c cX7_at (some .int) 3 RX7 G A := C
  unfold f_X7_at at hf
  have hx := C.1
  have hb := C.2.1
  have hown := C.2.2.2.2.1
  have hts := C.2.2.2.2.2.1
  have hN := C.2.2.2.2.2.2.2.2.2.2
  refine lv_iload_n (pc := 0) hx hb dX7_at_0 rfl (lv_at hl 1 rfl) ?_
  obtain ⟨r1, hq1, hf⟩ := bd_e hf
  refine x_sI (pc := 1) (As := [.int x1]) (rest := []) (isC := []) (ws' := (w_X7_at G a_t a_t_now a_t_kept a_t_thought a_t_draft a_t_filling a_t_moves a_t_text a_t_tapes a_t_now_facts a_t_now_roundsOf a_t_now_locked a_t_now_rules a_t_now_sizes a_t_now_rows a_t_now_seen a_t_now_plan a_t_now_book t_hasKept t_toldKind t_work t_now_stopCount t_now_metric t_now_fixed t_now_sizes t_now_rows)) C S (c_X7_isRound l G x1 r1 hq1) (u_X7_at_X7_isRound_147 hts) rfl rfl rfl rfl rfl hl.1 rfl (Nat.le_of_ble_eq_true rfl) dX7_at_1 (fun H locs S => ?_)
  refine lv_if_ne (tgt := 9) (pc := 4) hx hb dX7_at_4 (by decide) (fun c2 => ?_) (fun c2 => ?_)
  · have hf := ifn c2 hf
    refine lv_iload_n (pc := 9) hx hb dX7_at_9 rfl (lv_at hl 2 rfl) ?_
    refine lv_if_lt (tgt := 37) (pc := 10) hx hb dX7_at_10 (by decide) (fun c3 => ?_) (fun c3 => ?_)
    · have hf := ifp c3 hf
      refine lv_bipush (pc := 37) hx hb dX7_at_37 bc_m2 ?_
      cases hf
      exact x_iret (pc := 39) C S dX7_at_39
    · have hf := ifn c3 hf
      refine lv_iload_n (pc := 13) hx hb dX7_at_13 rfl (lv_at hl 2 rfl) ?_
      refine lv_aload_n (pc := 14) hx hb dX7_at_14 rfl (lv_at hl 0 rfl) ?_
      refine x_get (pc := 15) (ci := 7) (T := TX7) (v := .ref a_t_now) C S 0 rfl rfl inlX7 0 (by decide) rfl qf_7_14 rfl dX7_at_15 ?_
      refine lv_iload_n (pc := 18) hx hb dX7_at_18 rfl (lv_at hl 1 rfl) ?_
      obtain ⟨r4, hq4, hf⟩ := bd_e hf
      refine x_vI (pc := 19) (As := [.int x1]) (rest := [.int x2]) (isC := [1, 2]) (ws' := (w_X7_at G a_t a_t_now a_t_kept a_t_thought a_t_draft a_t_filling a_t_moves a_t_text a_t_tapes a_t_now_facts a_t_now_roundsOf a_t_now_locked a_t_now_rules a_t_now_sizes a_t_now_rows a_t_now_seen a_t_now_plan a_t_now_book t_hasKept t_toldKind t_work t_now_stopCount t_now_metric t_now_fixed t_now_sizes t_now_rows)) C S (c_X6_sizeOf l G a_t_now a_t_now_facts a_t_now_roundsOf a_t_now_locked a_t_now_rules a_t_now_sizes a_t_now_rows a_t_now_seen a_t_now_plan a_t_now_book t_now_stopCount t_now_metric t_now_fixed t_now_sizes x1 r4 hq4) (u_X7_at_X6_sizeOf_195 hts) (ci := 6) rfl 1 rfl rfl rfl rfl rfl rfl hl.1 rfl (Nat.le_of_ble_eq_true rfl) dX7_at_19 (fun H locs S => ?_)
      refine lv_icmp_ge (tgt := 37) (pc := 22) hx hb dX7_at_22 (by decide) (fun c5 => ?_) (fun c5 => ?_)
      · have hf := ifp c5 hf
        refine lv_bipush (pc := 37) hx hb dX7_at_37 bc_m2 ?_
        cases hf
        exact x_iret (pc := 39) C S dX7_at_39
      · have hf := ifn c5 hf
        refine lv_aload_n (pc := 25) hx hb dX7_at_25 rfl (lv_at hl 0 rfl) ?_
        refine x_get (pc := 26) (ci := 7) (T := TX7) (v := .ref a_t_now) C S 0 rfl rfl inlX7 0 (by decide) rfl qf_7_14 rfl dX7_at_26 ?_
        refine lv_iload_n (pc := 29) hx hb dX7_at_29 rfl (lv_at hl 1 rfl) ?_
        refine lv_iload_n (pc := 30) hx hb dX7_at_30 rfl (lv_at hl 2 rfl) ?_
        obtain ⟨r6, hq6, hf⟩ := bd_e hf
        refine x_vI (pc := 31) (As := [.int x1, .int x2]) (rest := []) (isC := [1, 2, 3]) (ws' := (w_X7_at G a_t a_t_now a_t_kept a_t_thought a_t_draft a_t_filling a_t_moves a_t_text a_t_tapes a_t_now_facts a_t_now_roundsOf a_t_now_locked a_t_now_rules a_t_now_sizes a_t_now_rows a_t_now_seen a_t_now_plan a_t_now_book t_hasKept t_toldKind t_work t_now_stopCount t_now_metric t_now_fixed t_now_sizes t_now_rows)) C S (c_X6_rowAt l G a_t_now a_t_now_facts a_t_now_roundsOf a_t_now_locked a_t_now_rules a_t_now_sizes a_t_now_rows a_t_now_seen a_t_now_plan a_t_now_book t_now_stopCount t_now_metric t_now_fixed t_now_sizes t_now_rows x1 x2 r6 hq6) (u_X7_at_X6_rowAt_236 hts) (ci := 6) rfl 1 rfl rfl rfl rfl rfl rfl hl.1 rfl (Nat.le_of_ble_eq_true rfl) dX7_at_31 (fun H locs S => ?_)
        refine lv_goto (tgt := 39) (pc := 34) hx hb dX7_at_34 (by decide) ?_
        cases hf
        exact x_iret (pc := 39) C S dX7_at_39
  · have hf := ifp c2 hf
    refine lv_iconst (pc := 7) hx hb dX7_at_7 ic_m1 ?_
    cases hf
    exact x_iret (pc := 8) C S dX7_at_8
end
abbrev rm_X7_spend : Room := { frames := 0, cells := 0, slots := 0, locals := 0 }
abbrev kw_X7_spend : Cond := .code yX7_spend cX7_spend 2 (some .boolean)
abbrev w_X7_spend (G : GE) (a_t a_t_now a_t_kept a_t_thought a_t_draft a_t_filling a_t_moves a_t_text a_t_tapes : Nat) (t_hasKept : Int32) (t_toldKind : Int32) (t_work : Int32) : va_W := [(a_t, ob 7 [.ref a_t_now, .ref a_t_kept, .ref a_t_thought, .ref a_t_draft, .ref a_t_filling, .ref a_t_moves, .ref a_t_text, .ref a_t_tapes, .int t_hasKept, .int t_toldKind, .int t_work])]
section
variable {p : Program} {l : Launch} {e : Env} {s : State} {m : MethodId} {args : Array Value} {below : List Frame} {meth : Method} {c : Code} {A : Nat → Prop} {G : GE} {a_t a_t_now a_t_kept a_t_thought a_t_draft a_t_filling a_t_moves a_t_text a_t_tapes : Nat} {r : Int32} {z_t_work : Int32}
set_option maxRecDepth 100000 in
set_option maxHeartbeats 4000000 in
theorem c_X7_spend (l : Launch) (G : GE) (a_t a_t_now a_t_kept a_t_thought a_t_draft a_t_filling a_t_moves a_t_text a_t_tapes : Nat) (t_hasKept : Int32) (t_toldKind : Int32) (t_work : Int32) (x1 : Int32) (r : Int32) (z_t_work : Int32) (hf : f_X7_spend t_work x1 = some (r, z_t_work)) : CI l G yX7_spend kw_X7_spend rm_X7_spend [.ref a_t, .int x1] (w_X7_spend G a_t a_t_now a_t_kept a_t_thought a_t_draft a_t_filling a_t_moves a_t_text a_t_tapes t_hasKept t_toldKind t_work) r (w_X7_spend G a_t a_t_now a_t_kept a_t_thought a_t_draft a_t_filling a_t_moves a_t_text a_t_tapes t_hasKept t_toldKind z_t_work) := by
  refine en_I (cc := cX7_spend) (maxL := 2) (ret := (some .boolean)) (by decide +kernel) (Nat.le_of_ble_eq_true rfl) ?_
  intro p e s m args below meth c A ls C S hl
  have hl : lv_has ls 2 [(0, .ref a_t), (1, .int x1)] := hl
  have C : Cx p s m args meth c cX7_spend (some .boolean) 2 RX7 G A := C
  unfold f_X7_spend at hf
  have hx := C.1
  have hb := C.2.1
  have hown := C.2.2.2.2.1
  have hts := C.2.2.2.2.2.1
  have hN := C.2.2.2.2.2.2.2.2.2.2
  refine lv_iload_n (pc := 0) hx hb dX7_spend_0 rfl (lv_at hl 1 rfl) ?_
  refine lv_sipush (pc := 1) hx hb dX7_spend_1 sc_1500 ?_
  refine lv_aload_n (pc := 4) hx hb dX7_spend_4 rfl (lv_at hl 0 rfl) ?_
  refine x_get (pc := 5) (ci := 7) (T := TX7) (v := .int t_work) C S 0 rfl rfl inlX7 10 (by decide) rfl qf_7_358 rfl dX7_spend_5 ?_
  refine lv_isub (pc := 8) hx hb dX7_spend_8 ?_
  refine lv_icmp_le (tgt := 14) (pc := 9) hx hb dX7_spend_9 (by decide) (fun c1 => ?_) (fun c1 => ?_)
  · have hf := ifp c1 hf
    refine lv_aload_n (pc := 14) hx hb dX7_spend_14 rfl (lv_at hl 0 rfl) ?_
    refine lv_dup (pc := 15) hx hb dX7_spend_15 rfl ?_
    refine x_get (pc := 16) (ci := 7) (T := TX7) (v := .int t_work) C S 0 rfl rfl inlX7 10 (by decide) rfl qf_7_358 rfl dX7_spend_16 ?_
    refine lv_iload_n (pc := 19) hx hb dX7_spend_19 rfl (lv_at hl 1 rfl) ?_
    refine lv_iadd (pc := 20) hx hb dX7_spend_20 ?_
    refine x_put (pc := 21) (ci := 7) (T := TX7) (ws' := (w_X7_spend G a_t a_t_now a_t_kept a_t_thought a_t_draft a_t_filling a_t_moves a_t_text a_t_tapes t_hasKept t_toldKind (t_work + x1))) C S tyX7 tyX7_ok nmX7 0 rfl rfl inlX7 10 (by decide) rfl qf_7_358 rfl rfl rfl rfl (Nat.le_of_ble_eq_true rfl) rfl dX7_spend_21 (fun H locs S => ?_)
    refine lv_iconst (pc := 24) hx hb dX7_spend_24 ic_1 ?_
    cases hf
    exact x_zret (pc := 25) (by decide) C S dX7_spend_25
  · have hf := ifn c1 hf
    refine lv_iconst (pc := 12) hx hb dX7_spend_12 ic_0 ?_
    cases hf
    exact x_zret (pc := 13) (by decide) C S dX7_spend_13
end
