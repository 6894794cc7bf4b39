abbrev rm_X4_parseClause : Room := { frames := 3, cells := 0, slots := 0, locals := 62 }
abbrev kw_X4_parseClause : Cond := .code yX4_parseClause cX4_parseClause 5 none
abbrev w_X4_parseClause (G : GE) (a_t a_t_signs a_t_facts : Nat) (t_size : Int32) (t_clauses : Int32) (t_next : Int32) (t_fault : Int32) (t_signs : Nat → Int32) (t_facts : Nat → Int32) : va_W := [(a_t, ob 4 [.ref a_t_signs, .ref a_t_facts, .int t_size, .int t_clauses, .int t_next, .int t_fault]), (a_t_signs, aI G 100 t_signs), (a_t_facts, aI G 36 t_facts)]
theorem u_X4_parseClause_X4_number_39 {s : State} {args : Array Value} (hts : ∀ w ∈ WU, w.before args s = true) : CallW rm_X4_parseClause s args RX4 RX4 39 yX4_number cX4_number 7 (some .int) (kw_X4_number :: WU) rm_X4_number 0 0 3 := cwV 3 hts (gV qm_4_39 qi_X4_number ql_X4_number qn_4 qc_X4_number) rfl rfl rfl (by decide +kernel) ⟨Nat.le_of_ble_eq_true rfl, Nat.le_of_ble_eq_true rfl⟩
theorem u_X4_parseClause_X4_keepFact_43 {s : State} {args : Array Value} (hts : ∀ w ∈ WU, w.before args s = true) : CallW rm_X4_parseClause s args RX4 RX4 43 yX4_keepFact cX4_keepFact 5 none (kw_X4_keepFact :: WU) rm_X4_keepFact 0 0 3 := cwV 3 hts (gV qm_4_43 qi_X4_keepFact ql_X4_keepFact qn_4 qc_X4_keepFact) rfl rfl rfl (by decide +kernel) ⟨Nat.le_of_ble_eq_true rfl, Nat.le_of_ble_eq_true rfl⟩
theorem u_X4_parseClause_X4_expect_47 {s : State} {args : Array Value} (hts : ∀ w ∈ WU, w.before args s = true) : CallW rm_X4_parseClause s args RX4 RX4 47 yX4_expect cX4_expect 2 none (kw_X4_expect :: WU) rm_X4_expect 0 0 1 := cwV 1 hts (gV qm_4_47 qi_X4_expect ql_X4_expect qn_4 qc_X4_expect) rfl rfl rfl (by decide +kernel) ⟨Nat.le_of_ble_eq_true rfl, Nat.le_of_ble_eq_true rfl⟩
theorem u_X4_parseClause_X4_skip_35 {s : State} {args : Array Value} (hts : ∀ w ∈ WU, w.before args s = true) : CallW rm_X4_parseClause s args RX4 RX4 35 yX4_skip cX4_skip 2 (some .boolean) (kw_X4_skip :: WU) rm_X4_skip 0 0 1 := cwV 1 hts (gV qm_4_35 qi_X4_skip ql_X4_skip qn_4 qc_X4_skip) rfl rfl rfl (by decide +kernel) ⟨Nat.le_of_ble_eq_true rfl, Nat.le_of_ble_eq_true rfl⟩
theorem u_X4_parseClause_X7_topOf_53 {s : State} {args : Array Value} (hts : ∀ w ∈ WU, w.before args s = true) (hN : Nx s) : va_CN rm_X4_parseClause s args RX4 53 yX7_topOf RX7 cX7_topOf 2 (some .int) (kw_X7_topOf :: WU) rm_X7_topOf 0 0 2 ∧ (Cond.static yX7_topOf).before args s = true ∧ True := ⟨va_cnB 2 hts (gW qc_X7_topOf) rfl rfl rfl (hN.1 _ (by decide +kernel : (RX4, 53, yX7_topOf) ∈ nstM)) (hts _ qn_7) (by decide +kernel) ⟨Nat.le_of_ble_eq_true rfl, Nat.le_of_ble_eq_true rfl⟩, hts _ qs_X7_topOf, trivial⟩
section
variable {p : Program} {l : Launch} {e : Env} {s : State} {m : MethodId} {args : Array Value} {below : List Frame} {meth : Method} {c : Code} {A : Nat → Prop} {G : GE} {a_t a_t_signs a_t_facts : Nat} {z_t_facts : Nat → Int32} {z_t_next : Int32} {z_t_fault : Int32}
set_option maxRecDepth 100000 in
set_option maxHeartbeats 4000000 in
theorem k_X4_parseClause_167 (C : Cx p s m args meth c cX4_parseClause none 5 RX4 G A) (t_size : Int32) (t_clauses : Int32) (t_next : Int32) (t_fault : Int32) (t_signs : Nat → Int32) (t_facts : Nat → Int32) (y1 : Int32) (y2 : Int32) (y3 : Int32) {H : Heap} {locs : List Loc} {ls : Array Slot} (hf : b_X4_parseClause_167 y1 y2 y3 t_facts t_next t_fault = some (z_t_facts, z_t_next, z_t_fault)) (S : St G A s.heap H locs (w_X4_parseClause G a_t a_t_signs a_t_facts t_size t_clauses t_next t_fault t_signs t_facts)) (hl : lv_has ls 5 []) : W p l e rm_X4_parseClause s m args below meth c H locs 0 0 (QV G below args s A (w_X4_parseClause G a_t a_t_signs a_t_facts t_size t_clauses z_t_next z_t_fault t_signs z_t_facts)) (F0 m 167 ls [.int y3, .int y2, .int y1, .ref a_t]) := by
  unfold b_X4_parseClause_167 at hf
  have hx := C.1
  have hb := C.2.1
  have hown := C.2.2.2.2.1
  have hts := C.2.2.2.2.2.1
  have hN := C.2.2.2.2.2.2.2.2.2.2
  obtain ⟨o1_t_facts, hq1, hf⟩ := bd_e hf
  refine x_vV (pc := 167) (As := [.int y1, .int y2, .int y3]) (rest := []) (isC := [0, 2]) (ws' := (w_X4_parseClause G a_t a_t_signs a_t_facts t_size t_clauses t_next t_fault t_signs o1_t_facts)) C S (c_X4_keepFact l G a_t a_t_signs a_t_facts t_size t_clauses t_next t_fault t_facts y1 y2 y3 o1_t_facts hq1) (u_X4_parseClause_X4_keepFact_43 hts) (ci := 4) rfl 0 rfl rfl rfl rfl rfl rfl hl.1 rfl (Nat.le_of_ble_eq_true rfl) dX4_parseClause_167 (fun H locs S => ?_)
  cases hf
  exact x_vret (pc := 170) C S dX4_parseClause_170
set_option maxRecDepth 100000 in
set_option maxHeartbeats 4000000 in
theorem k_X4_parseClause_135 (C : Cx p s m args meth c cX4_parseClause none 5 RX4 G A) (t_size : Int32) (t_clauses : Int32) (t_next : Int32) (t_fault : Int32) (t_signs : Nat → Int32) (t_facts : Nat → Int32) (x1 : Int32) (y1 : Int32) (y2 : Int32) (y3 : Int32) {H : Heap} {locs : List Loc} {ls : Array Slot} (hf : b_X4_parseClause_135 x1 y1 y2 y3 t_signs t_facts t_size t_next t_fault = some (z_t_facts, z_t_next, z_t_fault)) (S : St G A s.heap H locs (w_X4_parseClause G a_t a_t_signs a_t_facts t_size t_clauses t_next t_fault t_signs t_facts)) (hl : lv_has ls 5 [(0, .ref a_t), (1, .int x1)]) : W p l e rm_X4_parseClause s m args below meth c H locs 0 0 (QV G below args s A (w_X4_parseClause G a_t a_t_signs a_t_facts t_size t_clauses z_t_next z_t_fault t_signs z_t_facts)) (F0 m 135 ls [.int y3, .int y2, .int y1, .ref a_t]) := by
  unfold b_X4_parseClause_135 at hf
  have hx := C.1
  have hb := C.2.1
  have hown := C.2.2.2.2.1
  have hts := C.2.2.2.2.2.1
  have hN := C.2.2.2.2.2.2.2.2.2.2
  obtain ⟨o1_t_facts, hq1, hf⟩ := bd_e hf
  refine x_vV (pc := 135) (As := [.int y1, .int y2, .int y3]) (rest := []) (isC := [0, 2]) (ws' := (w_X4_parseClause G a_t a_t_signs a_t_facts t_size t_clauses t_next t_fault t_signs o1_t_facts)) C S (c_X4_keepFact l G a_t a_t_signs a_t_facts t_size t_clauses t_next t_fault t_facts y1 y2 y3 o1_t_facts hq1) (u_X4_parseClause_X4_keepFact_43 hts) (ci := 4) rfl 0 rfl rfl rfl rfl rfl rfl hl.1 rfl (Nat.le_of_ble_eq_true rfl) dX4_parseClause_135 (fun H locs S => ?_)
  refine lv_aload_n (pc := 138) hx hb dX4_parseClause_138 rfl (lv_at hl 0 rfl) ?_
  refine lv_iload_n (pc := 139) hx hb dX4_parseClause_139 rfl (lv_at hl 1 rfl) ?_
  refine lv_iconst (pc := 140) hx hb dX4_parseClause_140 ic_5 ?_
  refine lv_aload_n (pc := 141) hx hb dX4_parseClause_141 rfl (lv_at hl 0 rfl) ?_
  refine lv_bipush (pc := 142) hx hb dX4_parseClause_142 bc_43 ?_
  obtain ⟨⟨r2, o2_t_next⟩, hq2, hf⟩ := bd_e hf
  refine x_vI (pc := 144) (As := [.int (43 : Int32)]) (rest := [.int (5 : Int32), .int x1, .ref a_t]) (isC := [0, 1]) (ws' := (w_X4_parseClause G a_t a_t_signs a_t_facts t_size t_clauses o2_t_next t_fault t_signs o1_t_facts)) C S (c_X4_skip l G a_t a_t_signs a_t_facts t_size t_clauses t_next t_fault t_signs (43 : Int32) r2 o2_t_next hq2) (u_X4_parseClause_X4_skip_35 hts) (ci := 4) rfl 0 rfl rfl rfl rfl rfl rfl hl.1 rfl (Nat.le_of_ble_eq_true rfl) dX4_parseClause_144 (fun H locs S => ?_)
  refine lv_if_eq (tgt := 166) (pc := 147) hx hb dX4_parseClause_147 (by decide) (fun c3 => ?_) (fun c3 => ?_)
  · have hf := ifp c3 hf
    refine lv_iconst (pc := 166) hx hb dX4_parseClause_166 ic_0 ?_
    exact k_X4_parseClause_167 C (t_size) (t_clauses) (o2_t_next) (t_fault) (t_signs) (o1_t_facts) (x1) ((5 : Int32)) ((0 : Int32)) hf S (lv_sub hl [] rfl)
  · have hf := ifn c3 hf
    refine lv_aload_n (pc := 150) hx hb dX4_parseClause_150 rfl (lv_at hl 0 rfl) ?_
    refine lv_iconst (pc := 151) hx hb dX4_parseClause_151 ic_2 ?_
    refine lv_iconst (pc := 152) hx hb dX4_parseClause_152 ic_0 ?_
    refine x_tabN (pc := 153) C S 0 (by decide) (index := 50) (own := RX4) (by decide +kernel) dX4_parseClause_153 ?_
    refine lv_iconst (pc := 156) hx hb dX4_parseClause_156 ic_5 ?_
    obtain ⟨r4, hq4, hf⟩ := bd_e hf
    refine x_nI (pc := 157) (As := [.ref (tabA G 0), .int (5 : Int32)]) (rest := [.int (0 : Int32), .int (2 : Int32), .ref a_t, .int (5 : Int32), .int x1, .ref a_t]) (isC := []) (ws' := (w_X4_parseClause G a_t a_t_signs a_t_facts t_size t_clauses o2_t_next t_fault t_signs o1_t_facts)) C S (c_X7_topOf l G 0 (by decide) (5 : Int32) r4 hq4) (u_X4_parseClause_X7_topOf_53 hts hN) rfl rfl rfl rfl rfl hl.1 rfl (Nat.le_of_ble_eq_true rfl) dX4_parseClause_157 (fun H locs S => ?_)
    obtain ⟨⟨r5, o5_t_next, o5_t_fault⟩, hq5, hf⟩ := bd_e hf
    refine x_vI (pc := 160) (As := [.int (2 : Int32), .int (0 : Int32), .int r4]) (rest := [.int (5 : Int32), .int x1, .ref a_t]) (isC := [0, 1]) (ws' := (w_X4_parseClause G a_t a_t_signs a_t_facts t_size t_clauses o5_t_next o5_t_fault t_signs o1_t_facts)) C S (c_X4_number l G a_t a_t_signs a_t_facts t_size t_clauses o2_t_next t_fault t_signs (2 : Int32) (0 : Int32) r4 r5 o5_t_next o5_t_fault hq5) (u_X4_parseClause_X4_number_39 hts) (ci := 4) rfl 0 rfl rfl rfl rfl rfl rfl hl.1 rfl (Nat.le_of_ble_eq_true rfl) dX4_parseClause_160 (fun H locs S => ?_)
    refine lv_goto (tgt := 167) (pc := 163) hx hb dX4_parseClause_163 (by decide) ?_
    exact k_X4_parseClause_167 C (t_size) (t_clauses) (o5_t_next) (o5_t_fault) (t_signs) (o1_t_facts) (x1) ((5 : Int32)) (r5) hf S (lv_sub hl [] rfl)
set_option maxRecDepth 100000 in
set_option maxHeartbeats 4000000 in
theorem k_X4_parseClause_116 (C : Cx p s m args meth c cX4_parseClause none 5 RX4 G A) (t_size : Int32) (t_clauses : Int32) (t_next : Int32) (t_fault : Int32) (t_signs : Nat → Int32) (t_facts : Nat → Int32) (x1 : Int32) (x2 : Int32) (x3 : Int32) (x4 : Int32) {H : Heap} {locs : List Loc} {ls : Array Slot} (hf : b_X4_parseClause_116 x1 x2 x3 x4 t_signs t_facts t_size t_next t_fault = some (z_t_facts, z_t_next, z_t_fault)) (S : St G A s.heap H locs (w_X4_parseClause G a_t a_t_signs a_t_facts t_size t_clauses t_next t_fault t_signs t_facts)) (hl : lv_has ls 5 [(0, .ref a_t), (1, .int x1), (2, .int x2), (3, .int x3), (4, .int x4)]) : W p l e rm_X4_parseClause s m args below meth c H locs 0 0 (QV G below args s A (w_X4_parseClause G a_t a_t_signs a_t_facts t_size t_clauses z_t_next z_t_fault t_signs z_t_facts)) (F0 m 116 ls []) := by
  unfold b_X4_parseClause_116 at hf
  have hx := C.1
  have hb := C.2.1
  have hown := C.2.2.2.2.1
  have hts := C.2.2.2.2.2.1
  have hN := C.2.2.2.2.2.2.2.2.2.2
  refine lv_aload_n (pc := 116) hx hb dX4_parseClause_116 rfl (lv_at hl 0 rfl) ?_
  refine lv_iload_n (pc := 117) hx hb dX4_parseClause_117 rfl (lv_at hl 1 rfl) ?_
  refine lv_iconst (pc := 118) hx hb dX4_parseClause_118 ic_4 ?_
  refine lv_iload_n (pc := 119) hx hb dX4_parseClause_119 rfl (lv_at hl 3 rfl) ?_
  refine lv_if_eq (tgt := 134) (pc := 120) hx hb dX4_parseClause_120 (by decide) (fun c1 => ?_) (fun c1 => ?_)
  · have hf := ifp c1 hf
    refine lv_iload_n (pc := 134) hx hb dX4_parseClause_134 rfl (lv_at hl 2 rfl) ?_
    exact k_X4_parseClause_135 C (t_size) (t_clauses) (t_next) (t_fault) (t_signs) (t_facts) (x1) (x1) ((4 : Int32)) (x2) hf S (lv_sub hl [0, 1] rfl)
  · have hf := ifn c1 hf
    refine lv_aload_n (pc := 123) hx hb dX4_parseClause_123 rfl (lv_at hl 0 rfl) ?_
    refine lv_iconst (pc := 124) hx hb dX4_parseClause_124 ic_3 ?_
    refine lv_iload (pc := 125) hx hb dX4_parseClause_125 (lv_at hl 4 rfl) ?_
    refine lv_iload_n (pc := 127) hx hb dX4_parseClause_127 rfl (lv_at hl 2 rfl) ?_
    obtain ⟨⟨r2, o2_t_next, o2_t_fault⟩, hq2, hf⟩ := bd_e hf
    refine x_vI (pc := 128) (As := [.int (3 : Int32), .int x4, .int x2]) (rest := [.int (4 : Int32), .int x1, .ref a_t]) (isC := [0, 1]) (ws' := (w_X4_parseClause G a_t a_t_signs a_t_facts t_size t_clauses o2_t_next o2_t_fault t_signs t_facts)) C S (c_X4_number l G a_t a_t_signs a_t_facts t_size t_clauses t_next t_fault t_signs (3 : Int32) x4 x2 r2 o2_t_next o2_t_fault hq2) (u_X4_parseClause_X4_number_39 hts) (ci := 4) rfl 0 rfl rfl rfl rfl rfl rfl hl.1 rfl (Nat.le_of_ble_eq_true rfl) dX4_parseClause_128 (fun H locs S => ?_)
    refine lv_goto (tgt := 135) (pc := 131) hx hb dX4_parseClause_131 (by decide) ?_
    exact k_X4_parseClause_135 C (t_size) (t_clauses) (o2_t_next) (o2_t_fault) (t_signs) (t_facts) (x1) (x1) ((4 : Int32)) (r2) hf S (lv_sub hl [0, 1] rfl)
set_option maxRecDepth 100000 in
set_option maxHeartbeats 4000000 in
theorem k_X4_parseClause_96 (C : Cx p s m args meth c cX4_parseClause none 5 RX4 G A) (t_size : Int32) (t_clauses : Int32) (t_next : Int32) (t_fault : Int32) (t_signs : Nat → Int32) (t_facts : Nat → Int32) (x1 : Int32) (x2 : Int32) (x3 : Int32) (y0 : Int32) {H : Heap} {locs : List Loc} {ls : Array Slot} (hf : b_X4_parseClause_96 x1 x2 x3 y0 t_signs t_facts t_size t_next t_fault = some (z_t_facts, z_t_next, z_t_fault)) (S : St G A s.heap H locs (w_X4_parseClause G a_t a_t_signs a_t_facts t_size t_clauses t_next t_fault t_signs t_facts)) (hl : lv_has ls 5 [(0, .ref a_t), (1, .int x1), (2, .int x2), (3, .int x3)]) : W p l e rm_X4_parseClause s m args below meth c H locs 0 0 (QV G below args s A (w_X4_parseClause G a_t a_t_signs a_t_facts t_size t_clauses z_t_next z_t_fault t_signs z_t_facts)) (F0 m 96 ls [.int y0]) := by
  unfold b_X4_parseClause_96 at hf
  have hx := C.1
  have hb := C.2.1
  have hown := C.2.2.2.2.1
  have hts := C.2.2.2.2.2.1
  have hN := C.2.2.2.2.2.2.2.2.2.2
  refine lv_istore (pc := 96) (lv' := [(4, .int y0), (0, .ref a_t), (1, .int x1), (2, .int x2), (3, .int x3)]) hx hb dX4_parseClause_96 hl (by decide) rfl (fun ls hl => ?_)
  refine lv_aload_n (pc := 98) hx hb dX4_parseClause_98 rfl (lv_at hl 1 rfl) ?_
  refine lv_iload_n (pc := 99) hx hb dX4_parseClause_99 rfl (lv_at hl 2 rfl) ?_
  refine lv_iconst (pc := 100) hx hb dX4_parseClause_100 ic_3 ?_
  refine lv_iload (pc := 101) hx hb dX4_parseClause_101 (lv_at hl 0 rfl) ?_
  obtain ⟨o1_t_facts, hq1, hf⟩ := bd_e hf
  refine x_vV (pc := 103) (As := [.int x1, .int (3 : Int32), .int y0]) (rest := []) (isC := [0, 2]) (ws' := (w_X4_parseClause G a_t a_t_signs a_t_facts t_size t_clauses t_next t_fault t_signs o1_t_facts)) C S (c_X4_keepFact l G a_t a_t_signs a_t_facts t_size t_clauses t_next t_fault t_facts x1 (3 : Int32) y0 o1_t_facts hq1) (u_X4_parseClause_X4_keepFact_43 hts) (ci := 4) rfl 0 rfl rfl rfl rfl rfl rfl hl.1 rfl (Nat.le_of_ble_eq_true rfl) dX4_parseClause_103 (fun H locs S => ?_)
  refine lv_iload_n (pc := 106) hx hb dX4_parseClause_106 rfl (lv_at hl 4 rfl) ?_
  refine lv_if_eq (tgt := 116) (pc := 107) hx hb dX4_parseClause_107 (by decide) (fun c2 => ?_) (fun c2 => ?_)
  · have hf := ifp c2 hf
    exact k_X4_parseClause_116 C (t_size) (t_clauses) (t_next) (t_fault) (t_signs) (o1_t_facts) (x1) (x2) (x3) (y0) hf S (lv_sub hl [1, 2, 3, 4, 0] rfl)
  · have hf := ifn c2 hf
    refine lv_aload_n (pc := 110) hx hb dX4_parseClause_110 rfl (lv_at hl 1 rfl) ?_
    refine lv_bipush (pc := 111) hx hb dX4_parseClause_111 bc_45 ?_
    obtain ⟨⟨o3_t_next, o3_t_fault⟩, hq3, hf⟩ := bd_e hf
    refine x_vV (pc := 113) (As := [.int (45 : Int32)]) (rest := []) (isC := [0, 1]) (ws' := (w_X4_parseClause G a_t a_t_signs a_t_facts t_size t_clauses o3_t_next o3_t_fault t_signs o1_t_facts)) C S (c_X4_expect l G a_t a_t_signs a_t_facts t_size t_clauses t_next t_fault t_signs (45 : Int32) o3_t_next o3_t_fault hq3) (u_X4_parseClause_X4_expect_47 hts) (ci := 4) rfl 0 rfl rfl rfl rfl rfl rfl hl.1 rfl (Nat.le_of_ble_eq_true rfl) dX4_parseClause_113 (fun H locs S => ?_)
    exact k_X4_parseClause_116 C (t_size) (t_clauses) (o3_t_next) (o3_t_fault) (t_signs) (o1_t_facts) (x1) (x2) (x3) (y0) hf S (lv_sub hl [1, 2, 3, 4, 0] rfl)
set_option maxRecDepth 100000 in
set_option maxHeartbeats 4000000 in
theorem k_X4_parseClause_63 (C : Cx p s m args meth c cX4_parseClause none 5 RX4 G A) (t_size : Int32) (t_clauses : Int32) (t_next : Int32) (t_fault : Int32) (t_signs : Nat → Int32) (t_facts : Nat → Int32) (x1 : Int32) (y1 : Int32) (y2 : Int32) (y3 : Int32) {H : Heap} {locs : List Loc} {ls : Array Slot} (hf : b_X4_parseClause_63 x1 y1 y2 y3 t_signs t_facts t_size t_next t_fault = some (z_t_facts, z_t_next, z_t_fault)) (S : St G A s.heap H locs (w_X4_parseClause G a_t a_t_signs a_t_facts t_size t_clauses t_next t_fault t_signs t_facts)) (hl : lv_has ls 5 [(0, .ref a_t), (1, .int x1)]) : W p l e rm_X4_parseClause s m args below meth c H locs 0 0 (QV G below args s A (w_X4_parseClause G a_t a_t_signs a_t_facts t_size t_clauses z_t_next z_t_fault t_signs z_t_facts)) (F0 m 63 ls [.int y3, .int y2, .int y1, .ref a_t]) := by
  unfold b_X4_parseClause_63 at hf
  have hx := C.1
  have hb := C.2.1
  have hown := C.2.2.2.2.1
  have hts := C.2.2.2.2.2.1
  have hN := C.2.2.2.2.2.2.2.2.2.2
  obtain ⟨o1_t_facts, hq1, hf⟩ := bd_e hf
  refine x_vV (pc := 63) (As := [.int y1, .int y2, .int y3]) (rest := []) (isC := [0, 2]) (ws' := (w_X4_parseClause G a_t a_t_signs a_t_facts t_size t_clauses t_next t_fault t_signs o1_t_facts)) C S (c_X4_keepFact l G a_t a_t_signs a_t_facts t_size t_clauses t_next t_fault t_facts y1 y2 y3 o1_t_facts hq1) (u_X4_parseClause_X4_keepFact_43 hts) (ci := 4) rfl 0 rfl rfl rfl rfl rfl rfl hl.1 rfl (Nat.le_of_ble_eq_true rfl) dX4_parseClause_63 (fun H locs S => ?_)
  refine x_tabN (pc := 66) C S 0 (by decide) (index := 50) (own := RX4) (by decide +kernel) dX4_parseClause_66 ?_
  refine lv_iconst (pc := 69) hx hb dX4_parseClause_69 ic_4 ?_
  obtain ⟨r2, hq2, hf⟩ := bd_e hf
  refine x_nI (pc := 70) (As := [.ref (tabA G 0), .int (4 : Int32)]) (rest := []) (isC := []) (ws' := (w_X4_parseClause G a_t a_t_signs a_t_facts t_size t_clauses t_next t_fault t_signs o1_t_facts)) C S (c_X7_topOf l G 0 (by decide) (4 : Int32) r2 hq2) (u_X4_parseClause_X7_topOf_53 hts hN) rfl rfl rfl rfl rfl hl.1 rfl (Nat.le_of_ble_eq_true rfl) dX4_parseClause_70 (fun H locs S => ?_)
  refine lv_istore_n (pc := 73) (lv' := [(2, .int r2), (0, .ref a_t), (1, .int x1)]) hx hb dX4_parseClause_73 rfl hl (by decide) rfl (fun ls hl => ?_)
  refine lv_aload_n (pc := 74) hx hb dX4_parseClause_74 rfl (lv_at hl 1 rfl) ?_
  refine lv_bipush (pc := 75) hx hb dX4_parseClause_75 bc_64 ?_
  obtain ⟨⟨r3, o3_t_next⟩, hq3, hf⟩ := bd_e hf
  refine x_vI (pc := 77) (As := [.int (64 : Int32)]) (rest := []) (isC := [0, 1]) (ws' := (w_X4_parseClause G a_t a_t_signs a_t_facts t_size t_clauses o3_t_next t_fault t_signs o1_t_facts)) C S (c_X4_skip l G a_t a_t_signs a_t_facts t_size t_clauses t_next t_fault t_signs (64 : Int32) r3 o3_t_next hq3) (u_X4_parseClause_X4_skip_35 hts) (ci := 4) rfl 0 rfl rfl rfl rfl rfl rfl hl.1 rfl (Nat.le_of_ble_eq_true rfl) dX4_parseClause_77 (fun H locs S => ?_)
  refine lv_istore_n (pc := 80) (lv' := [(3, .int r3), (2, .int r2), (0, .ref a_t), (1, .int x1)]) hx hb dX4_parseClause_80 rfl hl (by decide) rfl (fun ls hl => ?_)
  refine lv_iload_n (pc := 81) hx hb dX4_parseClause_81 rfl (lv_at hl 0 rfl) ?_
  refine lv_if_eq (tgt := 95) (pc := 82) hx hb dX4_parseClause_82 (by decide) (fun c4 => ?_) (fun c4 => ?_)
  · have hf := ifp c4 hf
    refine lv_iconst (pc := 95) hx hb dX4_parseClause_95 ic_0 ?_
    exact k_X4_parseClause_96 C (t_size) (t_clauses) (o3_t_next) (t_fault) (t_signs) (o1_t_facts) (x1) (r2) (r3) ((0 : Int32)) hf S (lv_sub hl [2, 3, 1, 0] rfl)
  · have hf := ifn c4 hf
    refine lv_aload_n (pc := 85) hx hb dX4_parseClause_85 rfl (lv_at hl 2 rfl) ?_
    refine lv_iconst (pc := 86) hx hb dX4_parseClause_86 ic_3 ?_
    refine lv_iconst (pc := 87) hx hb dX4_parseClause_87 ic_0 ?_
    refine lv_iload_n (pc := 88) hx hb dX4_parseClause_88 rfl (lv_at hl 1 rfl) ?_
    obtain ⟨⟨r5, o5_t_next, o5_t_fault⟩, hq5, hf⟩ := bd_e hf
    refine x_vI (pc := 89) (As := [.int (3 : Int32), .int (0 : Int32), .int r2]) (rest := []) (isC := [0, 1]) (ws' := (w_X4_parseClause G a_t a_t_signs a_t_facts t_size t_clauses o5_t_next o5_t_fault t_signs o1_t_facts)) C S (c_X4_number l G a_t a_t_signs a_t_facts t_size t_clauses o3_t_next t_fault t_signs (3 : Int32) (0 : Int32) r2 r5 o5_t_next o5_t_fault hq5) (u_X4_parseClause_X4_number_39 hts) (ci := 4) rfl 0 rfl rfl rfl rfl rfl rfl hl.1 rfl (Nat.le_of_ble_eq_true rfl) dX4_parseClause_89 (fun H locs S => ?_)
    refine lv_goto (tgt := 96) (pc := 92) hx hb dX4_parseClause_92 (by decide) ?_
    exact k_X4_parseClause_96 C (t_size) (t_clauses) (o5_t_next) (o5_t_fault) (t_signs) (o1_t_facts) (x1) (r2) (r3) (r5) hf S (lv_sub hl [2, 3, 1, 0] rfl)
set_option maxRecDepth 100000 in
set_option maxHeartbeats 4000000 in
theorem c_X4_parseClause (l : Launch) (G : GE) (a_t a_t_signs a_t_facts : Nat) (t_size : Int32) (t_clauses : Int32) (t_next : Int32) (t_fault : Int32) (t_signs : Nat → Int32) (t_facts : Nat → Int32) (x1 : Int32) (z_t_facts : Nat → Int32) (z_t_next : Int32) (z_t_fault : Int32) (hf : f_X4_parseClause t_signs t_facts t_size t_next t_fault x1 = some (z_t_facts, z_t_next, z_t_fault)) : CV l G yX4_parseClause kw_X4_parseClause rm_X4_parseClause [.ref a_t, .int x1] (w_X4_parseClause G a_t a_t_signs a_t_facts t_size t_clauses t_next t_fault t_signs t_facts) (w_X4_parseClause G a_t a_t_signs a_t_facts t_size t_clauses z_t_next z_t_fault t_signs z_t_facts) := by
  refine en_V (cc := cX4_parseClause) (maxL := 5) (ret := none) (by decide +kernel) (Nat.le_of_ble_eq_true rfl) ?_
  intro p e s m args below meth c A ls C S hl
  have hl : lv_has ls 5 [(0, .ref a_t), (1, .int x1)] := hl
  have C : Cx p s m args meth c cX4_parseClause none 5 RX4 G A := C
  unfold f_X4_parseClause at hf
  have hx := C.1
  have hb := C.2.1
  have hown := C.2.2.2.2.1
  have hts := C.2.2.2.2.2.1
  have hN := C.2.2.2.2.2.2.2.2.2.2
  refine lv_aload_n (pc := 0) hx hb dX4_parseClause_0 rfl (lv_at hl 0 rfl) ?_
  refine lv_iload_n (pc := 1) hx hb dX4_parseClause_1 rfl (lv_at hl 1 rfl) ?_
  refine lv_iconst (pc := 2) hx hb dX4_parseClause_2 ic_0 ?_
  refine lv_aload_n (pc := 3) hx hb dX4_parseClause_3 rfl (lv_at hl 0 rfl) ?_
  refine lv_iconst (pc := 4) hx hb dX4_parseClause_4 ic_2 ?_
  refine lv_iconst (pc := 5) hx hb dX4_parseClause_5 ic_0 ?_
  refine lv_bipush (pc := 6) hx hb dX4_parseClause_6 bc_63 ?_
  obtain ⟨⟨r1, o1_t_next, o1_t_fault⟩, hq1, hf⟩ := bd_e hf
  refine x_vI (pc := 8) (As := [.int (2 : Int32), .int (0 : Int32), .int (63 : Int32)]) (rest := [.int (0 : Int32), .int x1, .ref a_t]) (isC := [0, 1]) (ws' := (w_X4_parseClause G a_t a_t_signs a_t_facts t_size t_clauses o1_t_next o1_t_fault t_signs t_facts)) C S (c_X4_number l G a_t a_t_signs a_t_facts t_size t_clauses t_next t_fault t_signs (2 : Int32) (0 : Int32) (63 : Int32) r1 o1_t_next o1_t_fault hq1) (u_X4_parseClause_X4_number_39 hts) (ci := 4) rfl 0 rfl rfl rfl rfl rfl rfl hl.1 rfl (Nat.le_of_ble_eq_true rfl) dX4_parseClause_8 (fun H locs S => ?_)
  obtain ⟨o2_t_facts, hq2, hf⟩ := bd_e hf
  refine x_vV (pc := 11) (As := [.int x1, .int (0 : Int32), .int r1]) (rest := []) (isC := [0, 2]) (ws' := (w_X4_parseClause G a_t a_t_signs a_t_facts t_size t_clauses o1_t_next o1_t_fault t_signs o2_t_facts)) C S (c_X4_keepFact l G a_t a_t_signs a_t_facts t_size t_clauses o1_t_next o1_t_fault t_facts x1 (0 : Int32) r1 o2_t_facts hq2) (u_X4_parseClause_X4_keepFact_43 hts) (ci := 4) rfl 0 rfl rfl rfl rfl rfl rfl hl.1 rfl (Nat.le_of_ble_eq_true rfl) dX4_parseClause_11 (fun H locs S => ?_)
  refine lv_aload_n (pc := 14) hx hb dX4_parseClause_14 rfl (lv_at hl 0 rfl) ?_
  refine lv_bipush (pc := 15) hx hb dX4_parseClause_15 bc_44 ?_
  obtain ⟨⟨o3_t_next, o3_t_fault⟩, hq3, hf⟩ := bd_e hf
  refine x_vV (pc := 17) (As := [.int (44 : Int32)]) (rest := []) (isC := [0, 1]) (ws' := (w_X4_parseClause G a_t a_t_signs a_t_facts t_size t_clauses o3_t_next o3_t_fault t_signs o2_t_facts)) C S (c_X4_expect l G a_t a_t_signs a_t_facts t_size t_clauses o1_t_next o1_t_fault t_signs (44 : Int32) o3_t_next o3_t_fault hq3) (u_X4_parseClause_X4_expect_47 hts) (ci := 4) rfl 0 rfl rfl rfl rfl rfl rfl hl.1 rfl (Nat.le_of_ble_eq_true rfl) dX4_parseClause_17 (fun H locs S => ?_)
  refine lv_aload_n (pc := 20) hx hb dX4_parseClause_20 rfl (lv_at hl 0 rfl) ?_
  refine lv_iload_n (pc := 21) hx hb dX4_parseClause_21 rfl (lv_at hl 1 rfl) ?_
  refine lv_iconst (pc := 22) hx hb dX4_parseClause_22 ic_1 ?_
  refine lv_aload_n (pc := 23) hx hb dX4_parseClause_23 rfl (lv_at hl 0 rfl) ?_
  refine lv_iconst (pc := 24) hx hb dX4_parseClause_24 ic_2 ?_
  refine lv_iconst (pc := 25) hx hb dX4_parseClause_25 ic_0 ?_
  refine lv_bipush (pc := 26) hx hb dX4_parseClause_26 bc_63 ?_
  obtain ⟨⟨r4, o4_t_next, o4_t_fault⟩, hq4, hf⟩ := bd_e hf
  refine x_vI (pc := 28) (As := [.int (2 : Int32), .int (0 : Int32), .int (63 : Int32)]) (rest := [.int (1 : Int32), .int x1, .ref a_t]) (isC := [0, 1]) (ws' := (w_X4_parseClause G a_t a_t_signs a_t_facts t_size t_clauses o4_t_next o4_t_fault t_signs o2_t_facts)) C S (c_X4_number l G a_t a_t_signs a_t_facts t_size t_clauses o3_t_next o3_t_fault t_signs (2 : Int32) (0 : Int32) (63 : Int32) r4 o4_t_next o4_t_fault hq4) (u_X4_parseClause_X4_number_39 hts) (ci := 4) rfl 0 rfl rfl rfl rfl rfl rfl hl.1 rfl (Nat.le_of_ble_eq_true rfl) dX4_parseClause_28 (fun H locs S => ?_)
  obtain ⟨o5_t_facts, hq5, hf⟩ := bd_e hf
  refine x_vV (pc := 31) (As := [.int x1, .int (1 : Int32), .int r4]) (rest := []) (isC := [0, 2]) (ws' := (w_X4_parseClause G a_t a_t_signs a_t_facts t_size t_clauses o4_t_next o4_t_fault t_signs o5_t_facts)) C S (c_X4_keepFact l G a_t a_t_signs a_t_facts t_size t_clauses o4_t_next o4_t_fault o2_t_facts x1 (1 : Int32) r4 o5_t_facts hq5) (u_X4_parseClause_X4_keepFact_43 hts) (ci := 4) rfl 0 rfl rfl rfl rfl rfl rfl hl.1 rfl (Nat.le_of_ble_eq_true rfl) dX4_parseClause_31 (fun H locs S => ?_)
  refine lv_aload_n (pc := 34) hx hb dX4_parseClause_34 rfl (lv_at hl 0 rfl) ?_
  refine lv_iload_n (pc := 35) hx hb dX4_parseClause_35 rfl (lv_at hl 1 rfl) ?_
  refine lv_iconst (pc := 36) hx hb dX4_parseClause_36 ic_2 ?_
  refine lv_aload_n (pc := 37) hx hb dX4_parseClause_37 rfl (lv_at hl 0 rfl) ?_
  refine lv_bipush (pc := 38) hx hb dX4_parseClause_38 bc_42 ?_
  obtain ⟨⟨r6, o6_t_next⟩, hq6, hf⟩ := bd_e hf
  refine x_vI (pc := 40) (As := [.int (42 : Int32)]) (rest := [.int (2 : Int32), .int x1, .ref a_t]) (isC := [0, 1]) (ws' := (w_X4_parseClause G a_t a_t_signs a_t_facts t_size t_clauses o6_t_next o4_t_fault t_signs o5_t_facts)) C S (c_X4_skip l G a_t a_t_signs a_t_facts t_size t_clauses o4_t_next o4_t_fault t_signs (42 : Int32) r6 o6_t_next hq6) (u_X4_parseClause_X4_skip_35 hts) (ci := 4) rfl 0 rfl rfl rfl rfl rfl rfl hl.1 rfl (Nat.le_of_ble_eq_true rfl) dX4_parseClause_40 (fun H locs S => ?_)
  refine lv_if_eq (tgt := 62) (pc := 43) hx hb dX4_parseClause_43 (by decide) (fun c7 => ?_) (fun c7 => ?_)
  · have hf := ifp c7 hf
    refine lv_iconst (pc := 62) hx hb dX4_parseClause_62 ic_1 ?_
    exact k_X4_parseClause_63 C (t_size) (t_clauses) (o6_t_next) (o4_t_fault) (t_signs) (o5_t_facts) (x1) (x1) ((2 : Int32)) ((1 : Int32)) hf S (lv_sub hl [0, 1] rfl)
  · have hf := ifn c7 hf
    refine lv_aload_n (pc := 46) hx hb dX4_parseClause_46 rfl (lv_at hl 0 rfl) ?_
    refine lv_iconst (pc := 47) hx hb dX4_parseClause_47 ic_2 ?_
    refine lv_iconst (pc := 48) hx hb dX4_parseClause_48 ic_0 ?_
    refine x_tabN (pc := 49) C S 0 (by decide) (index := 50) (own := RX4) (by decide +kernel) dX4_parseClause_49 ?_
    refine lv_iconst (pc := 52) hx hb dX4_parseClause_52 ic_2 ?_
    obtain ⟨r8, hq8, hf⟩ := bd_e hf
    refine x_nI (pc := 53) (As := [.ref (tabA G 0), .int (2 : Int32)]) (rest := [.int (0 : Int32), .int (2 : Int32), .ref a_t, .int (2 : Int32), .int x1, .ref a_t]) (isC := []) (ws' := (w_X4_parseClause G a_t a_t_signs a_t_facts t_size t_clauses o6_t_next o4_t_fault t_signs o5_t_facts)) C S (c_X7_topOf l G 0 (by decide) (2 : Int32) r8 hq8) (u_X4_parseClause_X7_topOf_53 hts hN) rfl rfl rfl rfl rfl hl.1 rfl (Nat.le_of_ble_eq_true rfl) dX4_parseClause_53 (fun H locs S => ?_)
    obtain ⟨⟨r9, o9_t_next, o9_t_fault⟩, hq9, hf⟩ := bd_e hf
    refine x_vI (pc := 56) (As := [.int (2 : Int32), .int (0 : Int32), .int r8]) (rest := [.int (2 : Int32), .int x1, .ref a_t]) (isC := [0, 1]) (ws' := (w_X4_parseClause G a_t a_t_signs a_t_facts t_size t_clauses o9_t_next o9_t_fault t_signs o5_t_facts)) C S (c_X4_number l G a_t a_t_signs a_t_facts t_size t_clauses o6_t_next o4_t_fault t_signs (2 : Int32) (0 : Int32) r8 r9 o9_t_next o9_t_fault hq9) (u_X4_parseClause_X4_number_39 hts) (ci := 4) rfl 0 rfl rfl rfl rfl rfl rfl hl.1 rfl (Nat.le_of_ble_eq_true rfl) dX4_parseClause_56 (fun H locs S => ?_)
    refine lv_goto (tgt := 63) (pc := 59) hx hb dX4_parseClause_59 (by decide) ?_
    exact k_X4_parseClause_63 C (t_size) (t_clauses) (o9_t_next) (o9_t_fault) (t_signs) (o5_t_facts) (x1) (x1) ((2 : Int32)) (r9) hf S (lv_sub hl [0, 1] rfl)
end
