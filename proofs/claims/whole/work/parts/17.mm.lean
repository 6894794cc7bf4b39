abbrev rm_X8_best : Room := { frames := 7, cells := 0, slots := 0, locals := 173 }
abbrev kw_X8_best : Cond := .code yX8_best cX8_best 3 (some .int)
abbrev w_X8_best (G : GE) (a_t a_t_s a_t_image a_t_mind a_t_aside a_t_text a_t_read a_t_comes a_t_begins a_t_latest a_t_move a_t_sort a_t_items a_t_cell a_t_carried : Nat) (t_isKept : Int32) (t_work : Int32) (t_kind : Int32) (t_letters : Int32) (t_at : Int32) (t_fault : Int32) (t_back : Int32) (t_waits : Int32) (t_miles : Int32) (t_loads : Int32) (t_bestRound : Int32) (t_bestPlace : Int32) (t_bestAdds : Int32) (t_regret : Int32) (t_z : Int32) (t_s : Nat → Int32) (t_comes : Nat → Int32) (t_begins : Nat → Int32) (t_move : Nat → Int32) : va_W := [(a_t, ob 8 [.ref a_t_s, .ref a_t_image, .ref a_t_mind, .ref a_t_aside, .int t_isKept, .int t_work, .int t_kind, .ref a_t_text, .ref a_t_read, .int t_letters, .int t_at, .int t_fault, .ref a_t_comes, .ref a_t_begins, .ref a_t_latest, .int t_back, .int t_waits, .int t_miles, .int t_loads, .int t_bestRound, .int t_bestPlace, .int t_bestAdds, .int t_regret, .ref a_t_move, .ref a_t_sort, .ref a_t_items, .ref a_t_cell, .ref a_t_carried, .int t_z]), (a_t_s, aI G 258 t_s), (a_t_comes, aI G 16 t_comes), (a_t_begins, aI G 16 t_begins), (a_t_move, aI G 5 t_move)]
theorem u_X8_best_X8_isIn_55 {s : State} {args : Array Value} (hts : ∀ w ∈ WU, w.before args s = true) : CallB rm_X8_best s args RX8 55 yX8_isIn cX8_isIn 3 (some .boolean) (kw_X8_isIn :: WU) rm_X8_isIn 0 0 3 ∧ (Cond.static yX8_isIn).before args s = true := va_cwS 3 hts (gS qm_8_55 qs_X8_isIn qn_8 qc_X8_isIn) rfl rfl rfl (by decide +kernel) ⟨Nat.le_of_ble_eq_true rfl, Nat.le_of_ble_eq_true rfl⟩
theorem u_X8_best_X8_works_208 {s : State} {args : Array Value} (hts : ∀ w ∈ WU, w.before args s = true) : CallW rm_X8_best s args RX8 RX8 208 yX8_works cX8_works 2 (some .boolean) (kw_X8_works :: WU) rm_X8_works 0 0 1 := cwV 1 hts (gV qm_8_208 qi_X8_works ql_X8_works qn_8 qc_X8_works) rfl rfl rfl (by decide +kernel) ⟨Nat.le_of_ble_eq_true rfl, Nat.le_of_ble_eq_true rfl⟩
theorem u_X8_best_X8_findsBest_233 {s : State} {args : Array Value} (hts : ∀ w ∈ WU, w.before args s = true) : CallW rm_X8_best s args RX8 RX8 233 yX8_findsBest cX8_findsBest 7 (some .boolean) (kw_X8_findsBest :: WU) rm_X8_findsBest 0 0 0 := cwV 0 hts (gV qm_8_233 qi_X8_findsBest ql_X8_findsBest qn_8 qc_X8_findsBest) rfl rfl rfl (by decide +kernel) ⟨Nat.le_of_ble_eq_true rfl, Nat.le_of_ble_eq_true rfl⟩
section
variable {p : Program} {l : Launch} {e : Env} {s : State} {m : MethodId} {args : Array Value} {below : List Frame} {meth : Method} {c : Code} {A : Nat → Prop} {G : GE} {a_t a_t_s a_t_image a_t_mind a_t_aside a_t_text a_t_read a_t_comes a_t_begins a_t_latest a_t_move a_t_sort a_t_items a_t_cell a_t_carried : Nat} {r : Int32} {z_t_s : Nat → Int32} {z_t_work : Int32} {z_t_kind : Int32} {z_t_comes : Nat → Int32} {z_t_begins : Nat → Int32} {z_t_back : Int32} {z_t_waits : Int32} {z_t_loads : Int32} {z_t_move : Nat → Int32}
set_option maxRecDepth 100000 in
set_option maxHeartbeats 4000000 in
theorem k_X8_best_42 (C : Cx p s m args meth c cX8_best (some .int) 3 RX8 G A) (t_isKept : Int32) (t_work : Int32) (t_kind : Int32) (t_letters : Int32) (t_at : Int32) (t_fault : Int32) (t_back : Int32) (t_waits : Int32) (t_miles : Int32) (t_loads : Int32) (t_bestRound : Int32) (t_bestPlace : Int32) (t_bestAdds : Int32) (t_regret : Int32) (t_z : Int32) (t_s : Nat → Int32) (t_comes : Nat → Int32) (t_begins : Nat → Int32) (t_move : Nat → Int32) (x1 : Int32) (x2 : Int32) (y1 : Int32) {H : Heap} {locs : List Loc} {ls : Array Slot} (hf : b_X8_best_42 x1 x2 y1 t_s t_work t_comes t_begins t_back t_waits t_loads t_move = some (r, z_t_s, z_t_work, z_t_kind, z_t_comes, z_t_begins, z_t_back, z_t_waits, z_t_loads, z_t_move)) (S : St G A s.heap H locs (w_X8_best G a_t a_t_s a_t_image a_t_mind a_t_aside a_t_text a_t_read a_t_comes a_t_begins a_t_latest a_t_move a_t_sort a_t_items a_t_cell a_t_carried t_isKept t_work t_kind t_letters t_at t_fault t_back t_waits t_miles t_loads t_bestRound t_bestPlace t_bestAdds t_regret t_z t_s t_comes t_begins t_move)) (hl : lv_has ls 3 [(0, .ref a_t), (1, .int x1), (2, .int x2)]) : W p l e rm_X8_best s m args below meth c H locs 0 0 (QI G below args s A r (w_X8_best G a_t a_t_s a_t_image a_t_mind a_t_aside a_t_text a_t_read a_t_comes a_t_begins a_t_latest a_t_move a_t_sort a_t_items a_t_cell a_t_carried t_isKept z_t_work z_t_kind t_letters t_at t_fault z_t_back z_t_waits t_miles z_t_loads t_bestRound t_bestPlace t_bestAdds t_regret t_z z_t_s z_t_comes z_t_begins z_t_move)) (F0 m 42 ls [.int y1, .ref a_t]) := by
  unfold b_X8_best_42 at hf
  have hx := C.1
  have hb := C.2.1
  have hown := C.2.2.2.2.1
  have hts := C.2.2.2.2.2.1
  have hN := C.2.2.2.2.2.2.2.2.2.2
  refine x_put (pc := 42) (ci := 8) (T := TX8) (ws' := (w_X8_best G a_t a_t_s a_t_image a_t_mind a_t_aside a_t_text a_t_read a_t_comes a_t_begins a_t_latest a_t_move a_t_sort a_t_items a_t_cell a_t_carried t_isKept t_work y1 t_letters t_at t_fault t_back t_waits t_miles t_loads t_bestRound t_bestPlace t_bestAdds t_regret t_z t_s t_comes t_begins t_move)) C S tyX8 tyX8_ok nmX8 0 rfl rfl inlX8 6 (by decide) rfl qf_8_248 rfl rfl rfl rfl (Nat.le_of_ble_eq_true rfl) rfl dX8_best_42 (fun H locs S => ?_)
  refine lv_iload_n (pc := 45) hx hb dX8_best_45 rfl (lv_at hl 2 rfl) ?_
  refine lv_if_eq (tgt := 58) (pc := 46) hx hb dX8_best_46 (by decide) (fun c1 => ?_) (fun c1 => ?_)
  · have hf := ifp c1 hf
    refine lv_bipush (pc := 58) hx hb dX8_best_58 bc_m5 ?_
    cases hf
    exact x_iret (pc := 60) C S dX8_best_60
  · have hf := ifn c1 hf
    refine lv_aload_n (pc := 49) hx hb dX8_best_49 rfl (lv_at hl 0 rfl) ?_
    refine x_get (pc := 50) (ci := 8) (T := TX8) (v := .ref a_t_move) C S 0 rfl rfl inlX8 23 (by decide) rfl qf_8_39 rfl dX8_best_50 ?_
    refine lv_iload_n (pc := 53) hx hb dX8_best_53 rfl (lv_at hl 1 rfl) ?_
    obtain ⟨hv2, hf⟩ := gI_e hf
    refine x_iald (pc := 54) C S 4 rfl hv2 dX8_best_54 ?_
    refine lv_goto (tgt := 60) (pc := 55) hx hb dX8_best_55 (by decide) ?_
    cases hf
    exact x_iret (pc := 60) C S dX8_best_60
set_option maxRecDepth 100000 in
set_option maxHeartbeats 4000000 in
theorem c_X8_best (l : Launch) (G : GE) (a_t a_t_s a_t_image a_t_mind a_t_aside a_t_text a_t_read a_t_comes a_t_begins a_t_latest a_t_move a_t_sort a_t_items a_t_cell a_t_carried : Nat) (t_isKept : Int32) (t_work : Int32) (t_kind : Int32) (t_letters : Int32) (t_at : Int32) (t_fault : Int32) (t_back : Int32) (t_waits : Int32) (t_miles : Int32) (t_loads : Int32) (t_bestRound : Int32) (t_bestPlace : Int32) (t_bestAdds : Int32) (t_regret : Int32) (t_z : Int32) (t_s : Nat → Int32) (t_comes : Nat → Int32) (t_begins : Nat → Int32) (t_move : Nat → Int32) (x1 : Int32) (r : Int32) (z_t_s : Nat → Int32) (z_t_work : Int32) (z_t_kind : Int32) (z_t_comes : Nat → Int32) (z_t_begins : Nat → Int32) (z_t_back : Int32) (z_t_waits : Int32) (z_t_loads : Int32) (z_t_move : Nat → Int32) (hf : f_X8_best t_s t_work t_kind t_comes t_begins t_back t_waits t_loads t_move x1 = some (r, z_t_s, z_t_work, z_t_kind, z_t_comes, z_t_begins, z_t_back, z_t_waits, z_t_loads, z_t_move)) : CI l G yX8_best kw_X8_best rm_X8_best [.ref a_t, .int x1] (w_X8_best G a_t a_t_s a_t_image a_t_mind a_t_aside a_t_text a_t_read a_t_comes a_t_begins a_t_latest a_t_move a_t_sort a_t_items a_t_cell a_t_carried t_isKept t_work t_kind t_letters t_at t_fault t_back t_waits t_miles t_loads t_bestRound t_bestPlace t_bestAdds t_regret t_z t_s t_comes t_begins t_move) r (w_X8_best G a_t a_t_s a_t_image a_t_mind a_t_aside a_t_text a_t_read a_t_comes a_t_begins a_t_latest a_t_move a_t_sort a_t_items a_t_cell a_t_carried t_isKept z_t_work z_t_kind t_letters t_at t_fault z_t_back z_t_waits t_miles z_t_loads t_bestRound t_bestPlace t_bestAdds t_regret t_z z_t_s z_t_comes z_t_begins z_t_move) := by
  refine en_I (cc := cX8_best) (maxL := 3) (ret := (some .int)) (by decide +kernel) (Nat.le_of_ble_eq_true rfl) ?_
  intro p e s m args below meth c A ls C S hl
  have hl : lv_has ls 3 [(0, .ref a_t), (1, .int x1)] := hl
  have C : Cx p s m args meth c cX8_best (some .int) 3 RX8 G A := C
  unfold f_X8_best at hf
  have hx := C.1
  have hb := C.2.1
  have hown := C.2.2.2.2.1
  have hts := C.2.2.2.2.2.1
  have hN := C.2.2.2.2.2.2.2.2.2.2
  refine lv_iload_n (pc := 0) hx hb dX8_best_0 rfl (lv_at hl 1 rfl) ?_
  refine lv_iconst (pc := 1) hx hb dX8_best_1 ic_0 ?_
  refine lv_iconst (pc := 2) hx hb dX8_best_2 ic_4 ?_
  obtain ⟨r1, hq1, hf⟩ := bd_e hf
  refine x_sI (pc := 3) (As := [.int x1, .int (0 : Int32), .int (4 : Int32)]) (rest := []) (isC := []) (ws' := (w_X8_best G a_t a_t_s a_t_image a_t_mind a_t_aside a_t_text a_t_read a_t_comes a_t_begins a_t_latest a_t_move a_t_sort a_t_items a_t_cell a_t_carried t_isKept t_work t_kind t_letters t_at t_fault t_back t_waits t_miles t_loads t_bestRound t_bestPlace t_bestAdds t_regret t_z t_s t_comes t_begins t_move)) C S (c_X8_isIn l G x1 (0 : Int32) (4 : Int32) r1 hq1) (u_X8_best_X8_isIn_55 hts) rfl (by decide +kernel) [none, none, none, none, none] (by decide +kernel) rfl rfl rfl hl.1 rfl (Nat.le_of_ble_eq_true rfl) dX8_best_3 (fun H locs S => ?_)
  refine lv_if_ne (tgt := 11) (pc := 6) hx hb dX8_best_6 (by decide) (fun c2 => ?_) (fun c2 => ?_)
  · have hf := ifn c2 hf
    refine lv_aload_n (pc := 11) hx hb dX8_best_11 rfl (lv_at hl 0 rfl) ?_
    refine lv_iconst (pc := 12) hx hb dX8_best_12 ic_1 ?_
    obtain ⟨⟨r3, o3_t_work⟩, hq3, hf⟩ := bd_e hf
    refine x_vI (pc := 13) (As := [.int (1 : Int32)]) (rest := []) (isC := [0]) (ws' := (w_X8_best G a_t a_t_s a_t_image a_t_mind a_t_aside a_t_text a_t_read a_t_comes a_t_begins a_t_latest a_t_move a_t_sort a_t_items a_t_cell a_t_carried t_isKept o3_t_work t_kind t_letters t_at t_fault t_back t_waits t_miles t_loads t_bestRound t_bestPlace t_bestAdds t_regret t_z t_s t_comes t_begins t_move)) C S (c_X8_works l G a_t a_t_s a_t_image a_t_mind a_t_aside a_t_text a_t_read a_t_comes a_t_begins a_t_latest a_t_move a_t_sort a_t_items a_t_cell a_t_carried t_isKept t_work t_kind t_letters t_at t_fault t_back t_waits t_miles t_loads t_bestRound t_bestPlace t_bestAdds t_regret t_z (1 : Int32) r3 o3_t_work hq3) (u_X8_best_X8_works_208 hts) (ci := 8) rfl 0 rfl rfl (by decide +kernel) [some 0, none, none, none, none] (by decide +kernel) rfl rfl rfl hl.1 rfl (Nat.le_of_ble_eq_true rfl) dX8_best_13 (fun H locs S => ?_)
    refine lv_if_ne (tgt := 22) (pc := 16) hx hb dX8_best_16 (by decide) (fun c4 => ?_) (fun c4 => ?_)
    · have hf := ifn c4 hf
      refine lv_aload_n (pc := 22) hx hb dX8_best_22 rfl (lv_at hl 0 rfl) ?_
      obtain ⟨⟨r5, o5_t_s, o5_t_comes, o5_t_begins, o5_t_back, o5_t_waits, o5_t_loads, o5_t_move⟩, hq5, hf⟩ := bd_e hf
      refine x_vI (pc := 23) (As := []) (rest := []) (isC := [0, 1, 2, 3, 4]) (ws' := (w_X8_best G a_t a_t_s a_t_image a_t_mind a_t_aside a_t_text a_t_read a_t_comes a_t_begins a_t_latest a_t_move a_t_sort a_t_items a_t_cell a_t_carried t_isKept o3_t_work t_kind t_letters t_at t_fault o5_t_back o5_t_waits t_miles o5_t_loads t_bestRound t_bestPlace t_bestAdds t_regret t_z o5_t_s o5_t_comes o5_t_begins o5_t_move)) C S (c_X8_findsBest l G a_t a_t_s a_t_image a_t_mind a_t_aside a_t_text a_t_read a_t_comes a_t_begins a_t_latest a_t_move a_t_sort a_t_items a_t_cell a_t_carried t_isKept o3_t_work t_kind t_letters t_at t_fault t_back t_waits t_miles t_loads t_bestRound t_bestPlace t_bestAdds t_regret t_z t_s t_comes t_begins t_move r5 o5_t_s o5_t_comes o5_t_begins o5_t_back o5_t_waits o5_t_loads o5_t_move hq5) (u_X8_best_X8_findsBest_233 hts) (ci := 8) rfl 0 rfl rfl (by decide +kernel) [some 0, some 1, some 2, some 3, some 4] (by decide +kernel) rfl rfl rfl hl.1 rfl (Nat.le_of_ble_eq_true rfl) dX8_best_23 (fun H locs S => ?_)
      refine lv_istore_n (pc := 26) (lv' := [(2, .int r5), (0, .ref a_t), (1, .int x1)]) hx hb dX8_best_26 rfl hl (by decide) rfl (fun ls hl => ?_)
      refine lv_aload_n (pc := 27) hx hb dX8_best_27 rfl (lv_at hl 1 rfl) ?_
      refine lv_iload_n (pc := 28) hx hb dX8_best_28 rfl (lv_at hl 0 rfl) ?_
      refine lv_if_eq (tgt := 41) (pc := 29) hx hb dX8_best_29 (by decide) (fun c6 => ?_) (fun c6 => ?_)
      · have hf := ifp c6 hf
        refine lv_iconst (pc := 41) hx hb dX8_best_41 ic_0 ?_
        exact k_X8_best_42 C (t_isKept) (o3_t_work) (t_kind) (t_letters) (t_at) (t_fault) (o5_t_back) (o5_t_waits) (t_miles) (o5_t_loads) (t_bestRound) (t_bestPlace) (t_bestAdds) (t_regret) (t_z) (o5_t_s) (o5_t_comes) (o5_t_begins) (o5_t_move) (x1) (r5) ((0 : Int32)) hf S (lv_sub hl [1, 2, 0] rfl)
      · have hf := ifn c6 hf
        refine lv_aload_n (pc := 32) hx hb dX8_best_32 rfl (lv_at hl 1 rfl) ?_
        refine x_get (pc := 33) (ci := 8) (T := TX8) (v := .ref a_t_move) C S 0 rfl rfl inlX8 23 (by decide) rfl qf_8_39 rfl dX8_best_33 ?_
        refine lv_iconst (pc := 36) hx hb dX8_best_36 ic_0 ?_
        refine x_iald (pc := 37) C S 4 rfl (vp_in_iff.mpr (by decide)) dX8_best_37 ?_
        refine lv_goto (tgt := 42) (pc := 38) hx hb dX8_best_38 (by decide) ?_
        exact k_X8_best_42 C (t_isKept) (o3_t_work) (t_kind) (t_letters) (t_at) (t_fault) (o5_t_back) (o5_t_waits) (t_miles) (o5_t_loads) (t_bestRound) (t_bestPlace) (t_bestAdds) (t_regret) (t_z) (o5_t_s) (o5_t_comes) (o5_t_begins) (o5_t_move) (x1) (r5) ((o5_t_move (0 : Int32).toNatClampNeg)) hf S (lv_sub hl [1, 2, 0] rfl)
    · have hf := ifp c4 hf
      refine lv_bipush (pc := 19) hx hb dX8_best_19 bc_m4 ?_
      cases hf
      exact x_iret (pc := 21) C S dX8_best_21
  · have hf := ifp c2 hf
    refine lv_iconst (pc := 9) hx hb dX8_best_9 ic_m1 ?_
    cases hf
    exact x_iret (pc := 10) C S dX8_best_10
end

abbrev rm_X8_book : Room := { frames := 2, cells := 0, slots := 0, locals := 42 }
abbrev kw_X8_book : Cond := .code yX8_book cX8_book 3 (some .int)
abbrev w_X8_book (G : GE) (a_t a_t_s a_t_image a_t_mind a_t_aside a_t_text a_t_read a_t_comes a_t_begins a_t_latest a_t_move a_t_sort a_t_items a_t_cell a_t_carried : Nat) (t_isKept : Int32) (t_work : Int32) (t_kind : Int32) (t_letters : Int32) (t_at : Int32) (t_fault : Int32) (t_back : Int32) (t_waits : Int32) (t_miles : Int32) (t_loads : Int32) (t_bestRound : Int32) (t_bestPlace : Int32) (t_bestAdds : Int32) (t_regret : Int32) (t_z : Int32) (t_s : Nat → Int32) : va_W := [(a_t, ob 8 [.ref a_t_s, .ref a_t_image, .ref a_t_mind, .ref a_t_aside, .int t_isKept, .int t_work, .int t_kind, .ref a_t_text, .ref a_t_read, .int t_letters, .int t_at, .int t_fault, .ref a_t_comes, .ref a_t_begins, .ref a_t_latest, .int t_back, .int t_waits, .int t_miles, .int t_loads, .int t_bestRound, .int t_bestPlace, .int t_bestAdds, .int t_regret, .ref a_t_move, .ref a_t_sort, .ref a_t_items, .ref a_t_cell, .ref a_t_carried, .int t_z]), (a_t_s, aI G 258 t_s)]
theorem u_X8_book_X8_isRound_162 {s : State} {args : Array Value} (hts : ∀ w ∈ WU, w.before args s = true) : CallB rm_X8_book s args RX8 162 yX8_isRound cX8_isRound 1 (some .boolean) (kw_X8_isRound :: WU) rm_X8_isRound 0 0 1 ∧ (Cond.static yX8_isRound).before args s = true := va_cwS 1 hts (gS qm_8_162 qs_X8_isRound qn_8 qc_X8_isRound) rfl rfl rfl (by decide +kernel) ⟨Nat.le_of_ble_eq_true rfl, Nat.le_of_ble_eq_true rfl⟩
theorem u_X8_book_X8_isIn_55 {s : State} {args : Array Value} (hts : ∀ w ∈ WU, w.before args s = true) : CallB rm_X8_book s args RX8 55 yX8_isIn cX8_isIn 3 (some .boolean) (kw_X8_isIn :: WU) rm_X8_isIn 0 0 3 ∧ (Cond.static yX8_isIn).before args s = true := va_cwS 3 hts (gS qm_8_55 qs_X8_isIn qn_8 qc_X8_isIn) rfl rfl rfl (by decide +kernel) ⟨Nat.le_of_ble_eq_true rfl, Nat.le_of_ble_eq_true rfl⟩
section
variable {p : Program} {l : Launch} {e : Env} {s : State} {m : MethodId} {args : Array Value} {below : List Frame} {meth : Method} {c : Code} {A : Nat → Prop} {G : GE} {a_t a_t_s a_t_image a_t_mind a_t_aside a_t_text a_t_read a_t_comes a_t_begins a_t_latest a_t_move a_t_sort a_t_items a_t_cell a_t_carried : Nat} {r : Int32} {z_t_s : Nat → Int32}
set_option maxRecDepth 100000 in
set_option maxHeartbeats 4000000 in
theorem c_X8_book (l : Launch) (G : GE) (a_t a_t_s a_t_image a_t_mind a_t_aside a_t_text a_t_read a_t_comes a_t_begins a_t_latest a_t_move a_t_sort a_t_items a_t_cell a_t_carried : Nat) (t_isKept : Int32) (t_work : Int32) (t_kind : Int32) (t_letters : Int32) (t_at : Int32) (t_fault : Int32) (t_back : Int32) (t_waits : Int32) (t_miles : Int32) (t_loads : Int32) (t_bestRound : Int32) (t_bestPlace : Int32) (t_bestAdds : Int32) (t_regret : Int32) (t_z : Int32) (t_s : Nat → Int32) (x1 : Int32) (x2 : Int32) (r : Int32) (z_t_s : Nat → Int32) (hf : f_X8_book t_s x1 x2 = some (r, z_t_s)) : CI l G yX8_book kw_X8_book rm_X8_book [.ref a_t, .int x1, .int x2] (w_X8_book G a_t a_t_s a_t_image a_t_mind a_t_aside a_t_text a_t_read a_t_comes a_t_begins a_t_latest a_t_move a_t_sort a_t_items a_t_cell a_t_carried t_isKept t_work t_kind t_letters t_at t_fault t_back t_waits t_miles t_loads t_bestRound t_bestPlace t_bestAdds t_regret t_z t_s) r (w_X8_book G a_t a_t_s a_t_image a_t_mind a_t_aside a_t_text a_t_read a_t_comes a_t_begins a_t_latest a_t_move a_t_sort a_t_items a_t_cell a_t_carried t_isKept t_work t_kind t_letters t_at t_fault t_back t_waits t_miles t_loads t_bestRound t_bestPlace t_bestAdds t_regret t_z z_t_s) := by
  refine en_I (cc := cX8_book) (maxL := 3) (ret := (some .int)) (by decide +kernel) (Nat.le_of_ble_eq_true rfl) ?_
  intro p e s m args below meth c A ls C S hl
  have hl : lv_has ls 3 [(0, .ref a_t), (1, .int x1), (2, .int x2)] := hl
  have C : Cx p s m args meth c cX8_book (some .int) 3 RX8 G A := C
  unfold f_X8_book at hf
  have hx := C.1
  have hb := C.2.1
  have hown := C.2.2.2.2.1
  have hts := C.2.2.2.2.2.1
  have hN := C.2.2.2.2.2.2.2.2.2.2
  refine lv_iload_n (pc := 0) hx hb dX8_book_0 rfl (lv_at hl 1 rfl) ?_
  refine lv_iconst (pc := 1) hx hb dX8_book_1 ic_m1 ?_
  refine lv_icmp_ne (tgt := 15) (pc := 2) hx hb dX8_book_2 (by decide) (fun c1 => ?_) (fun c1 => ?_)
  · have hf := ifn c1 hf
    refine lv_iload_n (pc := 15) hx hb dX8_book_15 rfl (lv_at hl 1 rfl) ?_
    obtain ⟨r2, hq2, hf⟩ := bd_e hf
    refine x_sI (pc := 16) (As := [.int x1]) (rest := []) (isC := []) (ws' := (w_X8_book G a_t a_t_s a_t_image a_t_mind a_t_aside a_t_text a_t_read a_t_comes a_t_begins a_t_latest a_t_move a_t_sort a_t_items a_t_cell a_t_carried t_isKept t_work t_kind t_letters t_at t_fault t_back t_waits t_miles t_loads t_bestRound t_bestPlace t_bestAdds t_regret t_z t_s)) C S (c_X8_isRound l G x1 r2 hq2) (u_X8_book_X8_isRound_162 hts) rfl (by decide +kernel) [none, none] (by decide +kernel) rfl rfl rfl hl.1 rfl (Nat.le_of_ble_eq_true rfl) dX8_book_16 (fun H locs S => ?_)
    refine lv_if_ne (tgt := 24) (pc := 19) hx hb dX8_book_19 (by decide) (fun c3 => ?_) (fun c3 => ?_)
    · have hf := ifn c3 hf
      refine lv_iload_n (pc := 24) hx hb dX8_book_24 rfl (lv_at hl 2 rfl) ?_
      refine lv_iconst (pc := 25) hx hb dX8_book_25 ic_0 ?_
      refine lv_bipush (pc := 26) hx hb dX8_book_26 bc_16 ?_
      obtain ⟨r4, hq4, hf⟩ := bd_e hf
      refine x_sI (pc := 28) (As := [.int x2, .int (0 : Int32), .int (16 : Int32)]) (rest := []) (isC := []) (ws' := (w_X8_book G a_t a_t_s a_t_image a_t_mind a_t_aside a_t_text a_t_read a_t_comes a_t_begins a_t_latest a_t_move a_t_sort a_t_items a_t_cell a_t_carried t_isKept t_work t_kind t_letters t_at t_fault t_back t_waits t_miles t_loads t_bestRound t_bestPlace t_bestAdds t_regret t_z t_s)) C S (c_X8_isIn l G x2 (0 : Int32) (16 : Int32) r4 hq4) (u_X8_book_X8_isIn_55 hts) rfl (by decide +kernel) [none, none] (by decide +kernel) rfl rfl rfl hl.1 rfl (Nat.le_of_ble_eq_true rfl) dX8_book_28 (fun H locs S => ?_)
      refine lv_if_ne (tgt := 37) (pc := 31) hx hb dX8_book_31 (by decide) (fun c5 => ?_) (fun c5 => ?_)
      · have hf := ifn c5 hf
        refine lv_aload_n (pc := 37) hx hb dX8_book_37 rfl (lv_at hl 0 rfl) ?_
        refine x_get (pc := 38) (ci := 8) (T := TX8) (v := .ref a_t_s) C S 0 rfl rfl inlX8 0 (by decide) rfl qf_8_11 rfl dX8_book_38 ?_
        refine lv_bipush (pc := 41) hx hb dX8_book_41 bc_7 ?_
        refine x_iald (pc := 43) C S 1 rfl (vp_in_iff.mpr (by decide)) dX8_book_43 ?_
        refine lv_bipush (pc := 44) hx hb dX8_book_44 bc_8 ?_
        refine lv_icmp_ne (tgt := 52) (pc := 46) hx hb dX8_book_46 (by decide) (fun c6 => ?_) (fun c6 => ?_)
        · have hf := ifn c6 hf
          refine lv_aload_n (pc := 52) hx hb dX8_book_52 rfl (lv_at hl 0 rfl) ?_
          refine x_get (pc := 53) (ci := 8) (T := TX8) (v := .ref a_t_s) C S 0 rfl rfl inlX8 0 (by decide) rfl qf_8_11 rfl dX8_book_53 ?_
          refine lv_bipush (pc := 56) hx hb dX8_book_56 bc_34 ?_
          refine lv_iconst (pc := 58) hx hb dX8_book_58 ic_2 ?_
          refine lv_aload_n (pc := 59) hx hb dX8_book_59 rfl (lv_at hl 0 rfl) ?_
          refine x_get (pc := 60) (ci := 8) (T := TX8) (v := .ref a_t_s) C S 0 rfl rfl inlX8 0 (by decide) rfl qf_8_11 rfl dX8_book_60 ?_
          refine lv_bipush (pc := 63) hx hb dX8_book_63 bc_7 ?_
          refine x_iald (pc := 65) C S 1 rfl (vp_in_iff.mpr (by decide)) dX8_book_65 ?_
          refine lv_imul (pc := 66) hx hb dX8_book_66 ?_
          refine lv_iadd (pc := 67) hx hb dX8_book_67 ?_
          refine lv_iload_n (pc := 68) hx hb dX8_book_68 rfl (lv_at hl 1 rfl) ?_
          obtain ⟨hv7, hf⟩ := gI_e hf
          refine x_iast (pc := 69) (ws' := (w_X8_book G a_t a_t_s a_t_image a_t_mind a_t_aside a_t_text a_t_read a_t_comes a_t_begins a_t_latest a_t_move a_t_sort a_t_items a_t_cell a_t_carried t_isKept t_work t_kind t_letters t_at t_fault t_back t_waits t_miles t_loads t_bestRound t_bestPlace t_bestAdds t_regret t_z (upd t_s ((34 : Int32) + ((2 : Int32) * (t_s (7 : Int32).toNatClampNeg))).toNatClampNeg x1))) C S 1 rfl hv7 rfl dX8_book_69 (fun H locs S => ?_)
          refine lv_aload_n (pc := 70) hx hb dX8_book_70 rfl (lv_at hl 0 rfl) ?_
          refine x_get (pc := 71) (ci := 8) (T := TX8) (v := .ref a_t_s) C S 0 rfl rfl inlX8 0 (by decide) rfl qf_8_11 rfl dX8_book_71 ?_
          refine lv_bipush (pc := 74) hx hb dX8_book_74 bc_34 ?_
          refine lv_iconst (pc := 76) hx hb dX8_book_76 ic_2 ?_
          refine lv_aload_n (pc := 77) hx hb dX8_book_77 rfl (lv_at hl 0 rfl) ?_
          refine x_get (pc := 78) (ci := 8) (T := TX8) (v := .ref a_t_s) C S 0 rfl rfl inlX8 0 (by decide) rfl qf_8_11 rfl dX8_book_78 ?_
          refine lv_bipush (pc := 81) hx hb dX8_book_81 bc_7 ?_
          refine x_iald (pc := 83) C S 1 rfl (vp_in_iff.mpr (by decide)) dX8_book_83 ?_
          refine lv_imul (pc := 84) hx hb dX8_book_84 ?_
          refine lv_iadd (pc := 85) hx hb dX8_book_85 ?_
          refine lv_iconst (pc := 86) hx hb dX8_book_86 ic_1 ?_
          refine lv_iadd (pc := 87) hx hb dX8_book_87 ?_
          refine lv_iload_n (pc := 88) hx hb dX8_book_88 rfl (lv_at hl 2 rfl) ?_
          obtain ⟨hv8, hf⟩ := gI_e hf
          refine x_iast (pc := 89) (ws' := (w_X8_book G a_t a_t_s a_t_image a_t_mind a_t_aside a_t_text a_t_read a_t_comes a_t_begins a_t_latest a_t_move a_t_sort a_t_items a_t_cell a_t_carried t_isKept t_work t_kind t_letters t_at t_fault t_back t_waits t_miles t_loads t_bestRound t_bestPlace t_bestAdds t_regret t_z (upd (upd t_s ((34 : Int32) + ((2 : Int32) * (t_s (7 : Int32).toNatClampNeg))).toNatClampNeg x1) (((34 : Int32) + ((2 : Int32) * ((upd t_s ((34 : Int32) + ((2 : Int32) * (t_s (7 : Int32).toNatClampNeg))).toNatClampNeg x1) (7 : Int32).toNatClampNeg))) + (1 : Int32)).toNatClampNeg x2))) C S 1 rfl hv8 rfl dX8_book_89 (fun H locs S => ?_)
          refine lv_aload_n (pc := 90) hx hb dX8_book_90 rfl (lv_at hl 0 rfl) ?_
          refine x_get (pc := 91) (ci := 8) (T := TX8) (v := .ref a_t_s) C S 0 rfl rfl inlX8 0 (by decide) rfl qf_8_11 rfl dX8_book_91 ?_
          refine lv_bipush (pc := 94) hx hb dX8_book_94 bc_7 ?_
          refine lv_dup2_11 (pc := 96) hx hb dX8_book_96 rfl rfl ?_
          refine x_iald (pc := 97) C S 1 rfl (vp_in_iff.mpr (by decide)) dX8_book_97 ?_
          refine lv_iconst (pc := 98) hx hb dX8_book_98 ic_1 ?_
          refine lv_iadd (pc := 99) hx hb dX8_book_99 ?_
          refine x_iast (pc := 100) (ws' := (w_X8_book G a_t a_t_s a_t_image a_t_mind a_t_aside a_t_text a_t_read a_t_comes a_t_begins a_t_latest a_t_move a_t_sort a_t_items a_t_cell a_t_carried t_isKept t_work t_kind t_letters t_at t_fault t_back t_waits t_miles t_loads t_bestRound t_bestPlace t_bestAdds t_regret t_z (upd (upd (upd t_s ((34 : Int32) + ((2 : Int32) * (t_s (7 : Int32).toNatClampNeg))).toNatClampNeg x1) (((34 : Int32) + ((2 : Int32) * ((upd t_s ((34 : Int32) + ((2 : Int32) * (t_s (7 : Int32).toNatClampNeg))).toNatClampNeg x1) (7 : Int32).toNatClampNeg))) + (1 : Int32)).toNatClampNeg x2) (7 : Int32).toNatClampNeg (((upd (upd t_s ((34 : Int32) + ((2 : Int32) * (t_s (7 : Int32).toNatClampNeg))).toNatClampNeg x1) (((34 : Int32) + ((2 : Int32) * ((upd t_s ((34 : Int32) + ((2 : Int32) * (t_s (7 : Int32).toNatClampNeg))).toNatClampNeg x1) (7 : Int32).toNatClampNeg))) + (1 : Int32)).toNatClampNeg x2) (7 : Int32).toNatClampNeg) + (1 : Int32))))) C S 1 rfl (vp_in_iff.mpr (by decide)) rfl dX8_book_100 (fun H locs S => ?_)
          refine lv_aload_n (pc := 101) hx hb dX8_book_101 rfl (lv_at hl 0 rfl) ?_
          refine x_get (pc := 102) (ci := 8) (T := TX8) (v := .ref a_t_s) C S 0 rfl rfl inlX8 0 (by decide) rfl qf_8_11 rfl dX8_book_102 ?_
          refine lv_bipush (pc := 105) hx hb dX8_book_105 bc_7 ?_
          refine x_iald (pc := 107) C S 1 rfl (vp_in_iff.mpr (by decide)) dX8_book_107 ?_
          cases hf
          exact x_iret (pc := 108) C S dX8_book_108
        · have hf := ifp c6 hf
          refine lv_bipush (pc := 49) hx hb dX8_book_49 bc_m4 ?_
          cases hf
          exact x_iret (pc := 51) C S dX8_book_51
      · have hf := ifp c5 hf
        refine lv_bipush (pc := 34) hx hb dX8_book_34 bc_m2 ?_
        cases hf
        exact x_iret (pc := 36) C S dX8_book_36
    · have hf := ifp c3 hf
      refine lv_iconst (pc := 22) hx hb dX8_book_22 ic_m1 ?_
      cases hf
      exact x_iret (pc := 23) C S dX8_book_23
  · have hf := ifp c1 hf
    refine lv_aload_n (pc := 5) hx hb dX8_book_5 rfl (lv_at hl 0 rfl) ?_
    refine x_get (pc := 6) (ci := 8) (T := TX8) (v := .ref a_t_s) C S 0 rfl rfl inlX8 0 (by decide) rfl qf_8_11 rfl dX8_book_6 ?_
    refine lv_bipush (pc := 9) hx hb dX8_book_9 bc_7 ?_
    refine lv_iconst (pc := 11) hx hb dX8_book_11 ic_0 ?_
    refine x_iast (pc := 12) (ws' := (w_X8_book G a_t a_t_s a_t_image a_t_mind a_t_aside a_t_text a_t_read a_t_comes a_t_begins a_t_latest a_t_move a_t_sort a_t_items a_t_cell a_t_carried t_isKept t_work t_kind t_letters t_at t_fault t_back t_waits t_miles t_loads t_bestRound t_bestPlace t_bestAdds t_regret t_z (upd t_s (7 : Int32).toNatClampNeg (0 : Int32)))) C S 1 rfl (vp_in_iff.mpr (by decide)) rfl dX8_book_12 (fun H locs S => ?_)
    refine lv_iconst (pc := 13) hx hb dX8_book_13 ic_0 ?_
    cases hf
    exact x_iret (pc := 14) C S dX8_book_14
end

abbrev rm_X8_copies : Room := { frames := 0, cells := 0, slots := 0, locals := 0 }
abbrev kw_X8_copies : Cond := .code yX8_copies cX8_copies 3 none
abbrev w_X8_copies (G : GE) (a_p0 a_p1 : Nat) (n_p0 : Nat) (n_p1 : Nat) (p0 : Nat → Int32) (p1 : Nat → Int32) : va_W := [(a_p0, aI G n_p0 p0), (a_p1, aI G n_p1 p1)]
section
variable {p : Program} {l : Launch} {e : Env} {s : State} {m : MethodId} {args : Array Value} {below : List Frame} {meth : Method} {c : Code} {A : Nat → Prop} {G : GE} {a_p0 a_p1 : Nat} {n_p0 n_p1 : Nat} {z_p1 : Nat → Int32}
set_option maxRecDepth 100000 in
set_option maxHeartbeats 4000000 in
theorem k_X8_copies_2 (C : Cx p s m args meth c cX8_copies none 3 RX8 G A) (p0 : Nat → Int32) (p1 : Nat → Int32) (x2 : Int32) (k2 : Int32 × (Nat → Int32) → Option ((Nat → Int32))) (hk2 : ∀ {H : Heap} {locs : List Loc} {ls : Array Slot} (x2' : Int32) (p1' : Nat → Int32), k2 (x2', p1') = some z_p1 → St G A s.heap H locs (w_X8_copies G a_p0 a_p1 n_p0 n_p1 p0 p1') → lv_has ls 3 [(0, .ref a_p0), (1, .ref a_p1), (2, .int x2')] → W p l e rm_X8_copies s m args below meth c H locs 0 0 (QV G below args s A (w_X8_copies G a_p0 a_p1 n_p0 n_p1 p0 z_p1)) (F0 m 2 ls [])) {H : Heap} {locs : List Loc} {ls : Array Slot} (hf : b_X8_copies_2 n_p0 n_p1 p0 k2 x2 p1 = some z_p1) (S : St G A s.heap H locs (w_X8_copies G a_p0 a_p1 n_p0 n_p1 p0 p1)) (hl : lv_has ls 3 [(0, .ref a_p0), (1, .ref a_p1), (2, .int x2)]) : W p l e rm_X8_copies s m args below meth c H locs 0 0 (QV G below args s A (w_X8_copies G a_p0 a_p1 n_p0 n_p1 p0 z_p1)) (F0 m 2 ls []) := by
  unfold b_X8_copies_2 at hf
  have hx := C.1
  have hb := C.2.1
  have hown := C.2.2.2.2.1
  have hts := C.2.2.2.2.2.1
  have hN := C.2.2.2.2.2.2.2.2.2.2
  refine lv_iload_n (pc := 2) hx hb dX8_copies_2 rfl (lv_at hl 2 rfl) ?_
  refine lv_aload_n (pc := 3) hx hb dX8_copies_3 rfl (lv_at hl 0 rfl) ?_
  refine x_lenI (pc := 4) C S 0 rfl rfl dX8_copies_4 ?_
  refine lv_icmp_ge (tgt := 20) (pc := 5) hx hb dX8_copies_5 (by decide) (fun c1 => ?_) (fun c1 => ?_)
  · have hf := ifp c1 hf
    cases hf
    exact x_vret (pc := 20) C S dX8_copies_20
  · have hf := ifn c1 hf
    refine lv_aload_n (pc := 8) hx hb dX8_copies_8 rfl (lv_at hl 1 rfl) ?_
    refine lv_iload_n (pc := 9) hx hb dX8_copies_9 rfl (lv_at hl 2 rfl) ?_
    refine lv_aload_n (pc := 10) hx hb dX8_copies_10 rfl (lv_at hl 0 rfl) ?_
    refine lv_iload_n (pc := 11) hx hb dX8_copies_11 rfl (lv_at hl 2 rfl) ?_
    obtain ⟨hv2, hf⟩ := gI_e hf
    refine x_iald (pc := 12) C S 0 rfl hv2 dX8_copies_12 ?_
    obtain ⟨hv3, hf⟩ := gI_e hf
    refine x_iast (pc := 13) (ws' := (w_X8_copies G a_p0 a_p1 n_p0 n_p1 p0 (upd p1 x2.toNatClampNeg (p0 x2.toNatClampNeg)))) C S 1 rfl hv3 rfl dX8_copies_13 (fun H locs S => ?_)
    refine lv_iinc (pc := 14) (v := (x2 + (1 : Int32))) (lv' := [(2, .int (x2 + (1 : Int32))), (0, .ref a_p0), (1, .ref a_p1)]) hx hb dX8_copies_14 hl (k := 2) rfl (congrArg (fun z => x2 + z) ic_1) (by decide) rfl (fun ls hl => ?_)
    refine lv_goto (tgt := 2) (pc := 17) hx hb dX8_copies_17 (by decide) ?_
    exact hk2 ((x2 + (1 : Int32))) ((upd p1 x2.toNatClampNeg (p0 x2.toNatClampNeg)))  hf S (lv_sub hl [1, 2, 0] rfl)
set_option maxRecDepth 100000 in
set_option maxHeartbeats 4000000 in
theorem h_X8_copies_2 (C : Cx p s m args meth c cX8_copies none 3 RX8 G A) (p0 : Nat → Int32) : ∀ (n : Nat) (x2 : Int32) (p1 : Nat → Int32) {H : Heap} {locs : List Loc} {ls : Array Slot} (hf : lp (fun k x => b_X8_copies_2 n_p0 n_p1 p0 k x.1 x.2) n (x2, p1) = some z_p1) (S : St G A s.heap H locs (w_X8_copies G a_p0 a_p1 n_p0 n_p1 p0 p1)) (hl : lv_has ls 3 [(0, .ref a_p0), (1, .ref a_p1), (2, .int x2)]), W p l e rm_X8_copies s m args below meth c H locs 0 0 (QV G below args s A (w_X8_copies G a_p0 a_p1 n_p0 n_p1 p0 z_p1)) (F0 m 2 ls []) := by
  intro n
  induction n with
  | zero =>
    intro x2 p1  H locs ls hf
    cases hf
  | succ n ih =>
    intro x2 p1  H locs ls hf S hl
    have hf : b_X8_copies_2 n_p0 n_p1 p0 (lp (fun k x => b_X8_copies_2 n_p0 n_p1 p0 k x.1 x.2) n) x2 p1 = some z_p1 := hf
    exact k_X8_copies_2 C p0 p1 x2  (lp (fun k x => b_X8_copies_2 n_p0 n_p1 p0 k x.1 x.2) n) (fun x2' p1'  h S hl => ih x2' p1'  h S hl) hf S hl
set_option maxRecDepth 100000 in
set_option maxHeartbeats 4000000 in
theorem c_X8_copies (l : Launch) (G : GE) (a_p0 a_p1 : Nat) (n_p0 : Nat) (n_p1 : Nat) (p0 : Nat → Int32) (p1 : Nat → Int32) (z_p1 : Nat → Int32) (hf : f_X8_copies n_p0 n_p1 p0 p1 = some z_p1) : CV l G yX8_copies kw_X8_copies rm_X8_copies [.ref a_p0, .ref a_p1] (w_X8_copies G a_p0 a_p1 n_p0 n_p1 p0 p1) (w_X8_copies G a_p0 a_p1 n_p0 n_p1 p0 z_p1) := by
  refine en_V (cc := cX8_copies) (maxL := 3) (ret := none) (by decide +kernel) (Nat.le_of_ble_eq_true rfl) ?_
  intro p e s m args below meth c A ls C S hl
  have hl : lv_has ls 3 [(0, .ref a_p0), (1, .ref a_p1)] := hl
  have C : Cx p s m args meth c cX8_copies none 3 RX8 G A := C
  unfold f_X8_copies at hf
  have hx := C.1
  have hb := C.2.1
  have hown := C.2.2.2.2.1
  have hts := C.2.2.2.2.2.1
  have hN := C.2.2.2.2.2.2.2.2.2.2
  refine lv_iconst (pc := 0) hx hb dX8_copies_0 ic_0 ?_
  refine lv_istore_n (pc := 1) (lv' := [(2, .int (0 : Int32)), (0, .ref a_p0), (1, .ref a_p1)]) hx hb dX8_copies_1 rfl hl (by decide) rfl (fun ls hl => ?_)
  exact h_X8_copies_2 C (p0) fu ((0 : Int32)) (p1) hf S (lv_sub hl [1, 2, 0] rfl)
end

abbrev rm_X8_draws : Room := { frames := 0, cells := 0, slots := 0, locals := 0 }
abbrev kw_X8_draws : Cond := .code yX8_draws cX8_draws 2 (some .int)
abbrev w_X8_draws (G : GE) (a_t a_t_s a_t_image a_t_mind a_t_aside a_t_text a_t_read a_t_comes a_t_begins a_t_latest a_t_move a_t_sort a_t_items a_t_cell a_t_carried : Nat) (t_isKept : Int32) (t_work : Int32) (t_kind : Int32) (t_letters : Int32) (t_at : Int32) (t_fault : Int32) (t_back : Int32) (t_waits : Int32) (t_miles : Int32) (t_loads : Int32) (t_bestRound : Int32) (t_bestPlace : Int32) (t_bestAdds : Int32) (t_regret : Int32) (t_z : Int32) : va_W := [(a_t, ob 8 [.ref a_t_s, .ref a_t_image, .ref a_t_mind, .ref a_t_aside, .int t_isKept, .int t_work, .int t_kind, .ref a_t_text, .ref a_t_read, .int t_letters, .int t_at, .int t_fault, .ref a_t_comes, .ref a_t_begins, .ref a_t_latest, .int t_back, .int t_waits, .int t_miles, .int t_loads, .int t_bestRound, .int t_bestPlace, .int t_bestAdds, .int t_regret, .ref a_t_move, .ref a_t_sort, .ref a_t_items, .ref a_t_cell, .ref a_t_carried, .int t_z])]
section
variable {p : Program} {l : Launch} {e : Env} {s : State} {m : MethodId} {args : Array Value} {below : List Frame} {meth : Method} {c : Code} {A : Nat → Prop} {G : GE} {a_t a_t_s a_t_image a_t_mind a_t_aside a_t_text a_t_read a_t_comes a_t_begins a_t_latest a_t_move a_t_sort a_t_items a_t_cell a_t_carried : Nat} {r : Int32} {z_t_z : Int32}
set_option maxRecDepth 100000 in
set_option maxHeartbeats 4000000 in
theorem c_X8_draws (l : Launch) (G : GE) (a_t a_t_s a_t_image a_t_mind a_t_aside a_t_text a_t_read a_t_comes a_t_begins a_t_latest a_t_move a_t_sort a_t_items a_t_cell a_t_carried : Nat) (t_isKept : Int32) (t_work : Int32) (t_kind : Int32) (t_letters : Int32) (t_at : Int32) (t_fault : Int32) (t_back : Int32) (t_waits : Int32) (t_miles : Int32) (t_loads : Int32) (t_bestRound : Int32) (t_bestPlace : Int32) (t_bestAdds : Int32) (t_regret : Int32) (t_z : Int32) (x1 : Int32) (r : Int32) (z_t_z : Int32) (hf : f_X8_draws t_z x1 = some (r, z_t_z)) : CI l G yX8_draws kw_X8_draws rm_X8_draws [.ref a_t, .int x1] (w_X8_draws G a_t a_t_s a_t_image a_t_mind a_t_aside a_t_text a_t_read a_t_comes a_t_begins a_t_latest a_t_move a_t_sort a_t_items a_t_cell a_t_carried t_isKept t_work t_kind t_letters t_at t_fault t_back t_waits t_miles t_loads t_bestRound t_bestPlace t_bestAdds t_regret t_z) r (w_X8_draws G a_t a_t_s a_t_image a_t_mind a_t_aside a_t_text a_t_read a_t_comes a_t_begins a_t_latest a_t_move a_t_sort a_t_items a_t_cell a_t_carried t_isKept t_work t_kind t_letters t_at t_fault t_back t_waits t_miles t_loads t_bestRound t_bestPlace t_bestAdds t_regret z_t_z) := by
  refine en_I (cc := cX8_draws) (maxL := 2) (ret := (some .int)) (by decide +kernel) (Nat.le_of_ble_eq_true rfl) ?_
  intro p e s m args below meth c A ls C S hl
  have hl : lv_has ls 2 [(0, .ref a_t), (1, .int x1)] := hl
  have C : Cx p s m args meth c cX8_draws (some .int) 2 RX8 G A := C
  unfold f_X8_draws at hf
  have hx := C.1
  have hb := C.2.1
  have hown := C.2.2.2.2.1
  have hts := C.2.2.2.2.2.1
  have hN := C.2.2.2.2.2.2.2.2.2.2
  refine lv_aload_n (pc := 0) hx hb dX8_draws_0 rfl (lv_at hl 0 rfl) ?_
  refine lv_aload_n (pc := 1) hx hb dX8_draws_1 rfl (lv_at hl 0 rfl) ?_
  refine x_get (pc := 2) (ci := 8) (T := TX8) (v := .int t_z) C S 0 rfl rfl inlX8 28 (by decide) rfl qf_8_265 rfl dX8_draws_2 ?_
  refine lv_ldcw (pc := 5) hx hb hown (hts _ qk_8_268) dX8_draws_5 ?_
  refine lv_imul (pc := 8) hx hb dX8_draws_8 ?_
  refine lv_sipush (pc := 9) hx hb dX8_draws_9 sc_12345 ?_
  refine lv_iadd (pc := 12) hx hb dX8_draws_12 ?_
  refine x_put (pc := 13) (ci := 8) (T := TX8) (ws' := (w_X8_draws G a_t a_t_s a_t_image a_t_mind a_t_aside a_t_text a_t_read a_t_comes a_t_begins a_t_latest a_t_move a_t_sort a_t_items a_t_cell a_t_carried t_isKept t_work t_kind t_letters t_at t_fault t_back t_waits t_miles t_loads t_bestRound t_bestPlace t_bestAdds t_regret ((t_z * (1103515245 : Int32)) + (12345 : Int32)))) C S tyX8 tyX8_ok nmX8 0 rfl rfl inlX8 28 (by decide) rfl qf_8_265 rfl rfl rfl rfl (Nat.le_of_ble_eq_true rfl) rfl dX8_draws_13 (fun H locs S => ?_)
  refine lv_aload_n (pc := 16) hx hb dX8_draws_16 rfl (lv_at hl 0 rfl) ?_
  refine x_get (pc := 17) (ci := 8) (T := TX8) (v := .int ((t_z * (1103515245 : Int32)) + (12345 : Int32))) C S 0 rfl rfl inlX8 28 (by decide) rfl qf_8_265 rfl dX8_draws_17 ?_
  refine lv_bipush (pc := 20) hx hb dX8_draws_20 bc_9 ?_
  refine lv_iushr (pc := 22) hx hb dX8_draws_22 rfl ?_
  refine lv_iload_n (pc := 23) hx hb dX8_draws_23 rfl (lv_at hl 1 rfl) ?_
  obtain ⟨hz1, hf⟩ := gd_e hf
  refine lv_irem (pc := 24) hx hb dX8_draws_24 hz1 ?_
  cases hf
  exact x_iret (pc := 25) C S dX8_draws_25
end

abbrev rm_X8_comes : Room := { frames := 0, cells := 0, slots := 0, locals := 0 }
abbrev kw_X8_comes : Cond := .code yX8_comes cX8_comes 8 none
abbrev w_X8_comes (G : GE) (a_t a_t_s a_t_image a_t_mind a_t_aside a_t_text a_t_read a_t_comes a_t_begins a_t_latest a_t_move a_t_sort a_t_items a_t_cell a_t_carried : Nat) (t_isKept : Int32) (t_work : Int32) (t_kind : Int32) (t_letters : Int32) (t_at : Int32) (t_fault : Int32) (t_back : Int32) (t_waits : Int32) (t_miles : Int32) (t_loads : Int32) (t_bestRound : Int32) (t_bestPlace : Int32) (t_bestAdds : Int32) (t_regret : Int32) (t_z : Int32) (t_s : Nat → Int32) : va_W := [(a_t, ob 8 [.ref a_t_s, .ref a_t_image, .ref a_t_mind, .ref a_t_aside, .int t_isKept, .int t_work, .int t_kind, .ref a_t_text, .ref a_t_read, .int t_letters, .int t_at, .int t_fault, .ref a_t_comes, .ref a_t_begins, .ref a_t_latest, .int t_back, .int t_waits, .int t_miles, .int t_loads, .int t_bestRound, .int t_bestPlace, .int t_bestAdds, .int t_regret, .ref a_t_move, .ref a_t_sort, .ref a_t_items, .ref a_t_cell, .ref a_t_carried, .int t_z]), (a_t_s, aI G 258 t_s)]
section
variable {p : Program} {l : Launch} {e : Env} {s : State} {m : MethodId} {args : Array Value} {below : List Frame} {meth : Method} {c : Code} {A : Nat → Prop} {G : GE} {a_t a_t_s a_t_image a_t_mind a_t_aside a_t_text a_t_read a_t_comes a_t_begins a_t_latest a_t_move a_t_sort a_t_items a_t_cell a_t_carried : Nat} {z_t_s : Nat → Int32}
set_option maxRecDepth 100000 in
set_option maxHeartbeats 4000000 in
theorem c_X8_comes (l : Launch) (G : GE) (a_t a_t_s a_t_image a_t_mind a_t_aside a_t_text a_t_read a_t_comes a_t_begins a_t_latest a_t_move a_t_sort a_t_items a_t_cell a_t_carried : Nat) (t_isKept : Int32) (t_work : Int32) (t_kind : Int32) (t_letters : Int32) (t_at : Int32) (t_fault : Int32) (t_back : Int32) (t_waits : Int32) (t_miles : Int32) (t_loads : Int32) (t_bestRound : Int32) (t_bestPlace : Int32) (t_bestAdds : Int32) (t_regret : Int32) (t_z : Int32) (t_s : Nat → Int32) (x1 : Int32) (x2 : Int32) (x3 : Int32) (x4 : Int32) (x5 : Int32) (x6 : Int32) (z_t_s : Nat → Int32) (hf : f_X8_comes t_s x1 x2 x3 x4 x5 x6 = some z_t_s) : CV l G yX8_comes kw_X8_comes rm_X8_comes [.ref a_t, .int x1, .int x2, .int x3, .int x4, .int x5, .int x6] (w_X8_comes G a_t a_t_s a_t_image a_t_mind a_t_aside a_t_text a_t_read a_t_comes a_t_begins a_t_latest a_t_move a_t_sort a_t_items a_t_cell a_t_carried t_isKept t_work t_kind t_letters t_at t_fault t_back t_waits t_miles t_loads t_bestRound t_bestPlace t_bestAdds t_regret t_z t_s) (w_X8_comes G a_t a_t_s a_t_image a_t_mind a_t_aside a_t_text a_t_read a_t_comes a_t_begins a_t_latest a_t_move a_t_sort a_t_items a_t_cell a_t_carried t_isKept t_work t_kind t_letters t_at t_fault t_back t_waits t_miles t_loads t_bestRound t_bestPlace t_bestAdds t_regret t_z z_t_s) := by
  refine en_V (cc := cX8_comes) (maxL := 8) (ret := none) (by decide +kernel) (Nat.le_of_ble_eq_true rfl) ?_
  intro p e s m args below meth c A ls C S hl
  have hl : lv_has ls 8 [(0, .ref a_t), (1, .int x1), (2, .int x2), (3, .int x3), (4, .int x4), (5, .int x5), (6, .int x6)] := hl
  have C : Cx p s m args meth c cX8_comes none 8 RX8 G A := C
  unfold f_X8_comes at hf
  have hx := C.1
  have hb := C.2.1
  have hown := C.2.2.2.2.1
  have hts := C.2.2.2.2.2.1
  have hN := C.2.2.2.2.2.2.2.2.2.2
  refine lv_bipush (pc := 0) hx hb dX8_comes_0 bc_50 ?_
  refine lv_bipush (pc := 2) hx hb dX8_comes_2 bc_8 ?_
  refine lv_aload_n (pc := 4) hx hb dX8_comes_4 rfl (lv_at hl 0 rfl) ?_
  refine x_get (pc := 5) (ci := 8) (T := TX8) (v := .ref a_t_s) C S 0 rfl rfl inlX8 0 (by decide) rfl qf_8_11 rfl dX8_comes_5 ?_
  refine lv_iconst (pc := 8) hx hb dX8_comes_8 ic_4 ?_
  refine x_iald (pc := 9) C S 1 rfl (vp_in_iff.mpr (by decide)) dX8_comes_9 ?_
  refine lv_imul (pc := 10) hx hb dX8_comes_10 ?_
  refine lv_iadd (pc := 11) hx hb dX8_comes_11 ?_
  refine lv_istore (pc := 12) (lv' := [(7, .int ((50 : Int32) + ((8 : Int32) * (t_s (4 : Int32).toNatClampNeg)))), (0, .ref a_t), (1, .int x1), (2, .int x2), (3, .int x3), (4, .int x4), (5, .int x5), (6, .int x6)]) hx hb dX8_comes_12 hl (by decide) rfl (fun ls hl => ?_)
  refine lv_aload_n (pc := 14) hx hb dX8_comes_14 rfl (lv_at hl 1 rfl) ?_
  refine x_get (pc := 15) (ci := 8) (T := TX8) (v := .ref a_t_s) C S 0 rfl rfl inlX8 0 (by decide) rfl qf_8_11 rfl dX8_comes_15 ?_
  refine lv_iload (pc := 18) hx hb dX8_comes_18 (lv_at hl 0 rfl) ?_
  refine lv_iload_n (pc := 20) hx hb dX8_comes_20 rfl (lv_at hl 2 rfl) ?_
  obtain ⟨hv1, hf⟩ := gI_e hf
  refine x_iast (pc := 21) (ws' := (w_X8_comes G a_t a_t_s a_t_image a_t_mind a_t_aside a_t_text a_t_read a_t_comes a_t_begins a_t_latest a_t_move a_t_sort a_t_items a_t_cell a_t_carried t_isKept t_work t_kind t_letters t_at t_fault t_back t_waits t_miles t_loads t_bestRound t_bestPlace t_bestAdds t_regret t_z (upd t_s ((50 : Int32) + ((8 : Int32) * (t_s (4 : Int32).toNatClampNeg))).toNatClampNeg x1))) C S 1 rfl hv1 rfl dX8_comes_21 (fun H locs S => ?_)
  refine lv_aload_n (pc := 22) hx hb dX8_comes_22 rfl (lv_at hl 1 rfl) ?_
  refine x_get (pc := 23) (ci := 8) (T := TX8) (v := .ref a_t_s) C S 0 rfl rfl inlX8 0 (by decide) rfl qf_8_11 rfl dX8_comes_23 ?_
  refine lv_iload (pc := 26) hx hb dX8_comes_26 (lv_at hl 0 rfl) ?_
  refine lv_iconst (pc := 28) hx hb dX8_comes_28 ic_1 ?_
  refine lv_iadd (pc := 29) hx hb dX8_comes_29 ?_
  refine lv_iload_n (pc := 30) hx hb dX8_comes_30 rfl (lv_at hl 3 rfl) ?_
  obtain ⟨hv2, hf⟩ := gI_e hf
  refine x_iast (pc := 31) (ws' := (w_X8_comes G a_t a_t_s a_t_image a_t_mind a_t_aside a_t_text a_t_read a_t_comes a_t_begins a_t_latest a_t_move a_t_sort a_t_items a_t_cell a_t_carried t_isKept t_work t_kind t_letters t_at t_fault t_back t_waits t_miles t_loads t_bestRound t_bestPlace t_bestAdds t_regret t_z (upd (upd t_s ((50 : Int32) + ((8 : Int32) * (t_s (4 : Int32).toNatClampNeg))).toNatClampNeg x1) (((50 : Int32) + ((8 : Int32) * (t_s (4 : Int32).toNatClampNeg))) + (1 : Int32)).toNatClampNeg x2))) C S 1 rfl hv2 rfl dX8_comes_31 (fun H locs S => ?_)
  refine lv_aload_n (pc := 32) hx hb dX8_comes_32 rfl (lv_at hl 1 rfl) ?_
  refine x_get (pc := 33) (ci := 8) (T := TX8) (v := .ref a_t_s) C S 0 rfl rfl inlX8 0 (by decide) rfl qf_8_11 rfl dX8_comes_33 ?_
  refine lv_iload (pc := 36) hx hb dX8_comes_36 (lv_at hl 0 rfl) ?_
  refine lv_iconst (pc := 38) hx hb dX8_comes_38 ic_2 ?_
  refine lv_iadd (pc := 39) hx hb dX8_comes_39 ?_
  refine lv_iload_n (pc := 40) hx hb dX8_comes_40 rfl (lv_at hl 4 rfl) ?_
  obtain ⟨hv3, hf⟩ := gI_e hf
  refine x_iast (pc := 41) (ws' := (w_X8_comes G a_t a_t_s a_t_image a_t_mind a_t_aside a_t_text a_t_read a_t_comes a_t_begins a_t_latest a_t_move a_t_sort a_t_items a_t_cell a_t_carried t_isKept t_work t_kind t_letters t_at t_fault t_back t_waits t_miles t_loads t_bestRound t_bestPlace t_bestAdds t_regret t_z (upd (upd (upd t_s ((50 : Int32) + ((8 : Int32) * (t_s (4 : Int32).toNatClampNeg))).toNatClampNeg x1) (((50 : Int32) + ((8 : Int32) * (t_s (4 : Int32).toNatClampNeg))) + (1 : Int32)).toNatClampNeg x2) (((50 : Int32) + ((8 : Int32) * (t_s (4 : Int32).toNatClampNeg))) + (2 : Int32)).toNatClampNeg x3))) C S 1 rfl hv3 rfl dX8_comes_41 (fun H locs S => ?_)
  refine lv_aload_n (pc := 42) hx hb dX8_comes_42 rfl (lv_at hl 1 rfl) ?_
  refine x_get (pc := 43) (ci := 8) (T := TX8) (v := .ref a_t_s) C S 0 rfl rfl inlX8 0 (by decide) rfl qf_8_11 rfl dX8_comes_43 ?_
  refine lv_iload (pc := 46) hx hb dX8_comes_46 (lv_at hl 0 rfl) ?_
  refine lv_iconst (pc := 48) hx hb dX8_comes_48 ic_3 ?_
  refine lv_iadd (pc := 49) hx hb dX8_comes_49 ?_
  refine lv_iload (pc := 50) hx hb dX8_comes_50 (lv_at hl 5 rfl) ?_
  obtain ⟨hv4, hf⟩ := gI_e hf
  refine x_iast (pc := 52) (ws' := (w_X8_comes G a_t a_t_s a_t_image a_t_mind a_t_aside a_t_text a_t_read a_t_comes a_t_begins a_t_latest a_t_move a_t_sort a_t_items a_t_cell a_t_carried t_isKept t_work t_kind t_letters t_at t_fault t_back t_waits t_miles t_loads t_bestRound t_bestPlace t_bestAdds t_regret t_z (upd (upd (upd (upd t_s ((50 : Int32) + ((8 : Int32) * (t_s (4 : Int32).toNatClampNeg))).toNatClampNeg x1) (((50 : Int32) + ((8 : Int32) * (t_s (4 : Int32).toNatClampNeg))) + (1 : Int32)).toNatClampNeg x2) (((50 : Int32) + ((8 : Int32) * (t_s (4 : Int32).toNatClampNeg))) + (2 : Int32)).toNatClampNeg x3) (((50 : Int32) + ((8 : Int32) * (t_s (4 : Int32).toNatClampNeg))) + (3 : Int32)).toNatClampNeg x4))) C S 1 rfl hv4 rfl dX8_comes_52 (fun H locs S => ?_)
  refine lv_aload_n (pc := 53) hx hb dX8_comes_53 rfl (lv_at hl 1 rfl) ?_
  refine x_get (pc := 54) (ci := 8) (T := TX8) (v := .ref a_t_s) C S 0 rfl rfl inlX8 0 (by decide) rfl qf_8_11 rfl dX8_comes_54 ?_
  refine lv_iload (pc := 57) hx hb dX8_comes_57 (lv_at hl 0 rfl) ?_
  refine lv_iconst (pc := 59) hx hb dX8_comes_59 ic_4 ?_
  refine lv_iadd (pc := 60) hx hb dX8_comes_60 ?_
  refine lv_iload (pc := 61) hx hb dX8_comes_61 (lv_at hl 6 rfl) ?_
  obtain ⟨hv5, hf⟩ := gI_e hf
  refine x_iast (pc := 63) (ws' := (w_X8_comes G a_t a_t_s a_t_image a_t_mind a_t_aside a_t_text a_t_read a_t_comes a_t_begins a_t_latest a_t_move a_t_sort a_t_items a_t_cell a_t_carried t_isKept t_work t_kind t_letters t_at t_fault t_back t_waits t_miles t_loads t_bestRound t_bestPlace t_bestAdds t_regret t_z (upd (upd (upd (upd (upd t_s ((50 : Int32) + ((8 : Int32) * (t_s (4 : Int32).toNatClampNeg))).toNatClampNeg x1) (((50 : Int32) + ((8 : Int32) * (t_s (4 : Int32).toNatClampNeg))) + (1 : Int32)).toNatClampNeg x2) (((50 : Int32) + ((8 : Int32) * (t_s (4 : Int32).toNatClampNeg))) + (2 : Int32)).toNatClampNeg x3) (((50 : Int32) + ((8 : Int32) * (t_s (4 : Int32).toNatClampNeg))) + (3 : Int32)).toNatClampNeg x4) (((50 : Int32) + ((8 : Int32) * (t_s (4 : Int32).toNatClampNeg))) + (4 : Int32)).toNatClampNeg x5))) C S 1 rfl hv5 rfl dX8_comes_63 (fun H locs S => ?_)
  refine lv_aload_n (pc := 64) hx hb dX8_comes_64 rfl (lv_at hl 1 rfl) ?_
  refine x_get (pc := 65) (ci := 8) (T := TX8) (v := .ref a_t_s) C S 0 rfl rfl inlX8 0 (by decide) rfl qf_8_11 rfl dX8_comes_65 ?_
  refine lv_iload (pc := 68) hx hb dX8_comes_68 (lv_at hl 0 rfl) ?_
  refine lv_iconst (pc := 70) hx hb dX8_comes_70 ic_5 ?_
  refine lv_iadd (pc := 71) hx hb dX8_comes_71 ?_
  refine lv_iload (pc := 72) hx hb dX8_comes_72 (lv_at hl 7 rfl) ?_
  obtain ⟨hv6, hf⟩ := gI_e hf
  refine x_iast (pc := 74) (ws' := (w_X8_comes G a_t a_t_s a_t_image a_t_mind a_t_aside a_t_text a_t_read a_t_comes a_t_begins a_t_latest a_t_move a_t_sort a_t_items a_t_cell a_t_carried t_isKept t_work t_kind t_letters t_at t_fault t_back t_waits t_miles t_loads t_bestRound t_bestPlace t_bestAdds t_regret t_z (upd (upd (upd (upd (upd (upd t_s ((50 : Int32) + ((8 : Int32) * (t_s (4 : Int32).toNatClampNeg))).toNatClampNeg x1) (((50 : Int32) + ((8 : Int32) * (t_s (4 : Int32).toNatClampNeg))) + (1 : Int32)).toNatClampNeg x2) (((50 : Int32) + ((8 : Int32) * (t_s (4 : Int32).toNatClampNeg))) + (2 : Int32)).toNatClampNeg x3) (((50 : Int32) + ((8 : Int32) * (t_s (4 : Int32).toNatClampNeg))) + (3 : Int32)).toNatClampNeg x4) (((50 : Int32) + ((8 : Int32) * (t_s (4 : Int32).toNatClampNeg))) + (4 : Int32)).toNatClampNeg x5) (((50 : Int32) + ((8 : Int32) * (t_s (4 : Int32).toNatClampNeg))) + (5 : Int32)).toNatClampNeg x6))) C S 1 rfl hv6 rfl dX8_comes_74 (fun H locs S => ?_)
  refine lv_aload_n (pc := 75) hx hb dX8_comes_75 rfl (lv_at hl 1 rfl) ?_
  refine x_get (pc := 76) (ci := 8) (T := TX8) (v := .ref a_t_s) C S 0 rfl rfl inlX8 0 (by decide) rfl qf_8_11 rfl dX8_comes_76 ?_
  refine lv_iload (pc := 79) hx hb dX8_comes_79 (lv_at hl 0 rfl) ?_
  refine lv_bipush (pc := 81) hx hb dX8_comes_81 bc_6 ?_
  refine lv_iadd (pc := 83) hx hb dX8_comes_83 ?_
  refine lv_iconst (pc := 84) hx hb dX8_comes_84 ic_0 ?_
  obtain ⟨hv7, hf⟩ := gI_e hf
  refine x_iast (pc := 85) (ws' := (w_X8_comes G a_t a_t_s a_t_image a_t_mind a_t_aside a_t_text a_t_read a_t_comes a_t_begins a_t_latest a_t_move a_t_sort a_t_items a_t_cell a_t_carried t_isKept t_work t_kind t_letters t_at t_fault t_back t_waits t_miles t_loads t_bestRound t_bestPlace t_bestAdds t_regret t_z (upd (upd (upd (upd (upd (upd (upd t_s ((50 : Int32) + ((8 : Int32) * (t_s (4 : Int32).toNatClampNeg))).toNatClampNeg x1) (((50 : Int32) + ((8 : Int32) * (t_s (4 : Int32).toNatClampNeg))) + (1 : Int32)).toNatClampNeg x2) (((50 : Int32) + ((8 : Int32) * (t_s (4 : Int32).toNatClampNeg))) + (2 : Int32)).toNatClampNeg x3) (((50 : Int32) + ((8 : Int32) * (t_s (4 : Int32).toNatClampNeg))) + (3 : Int32)).toNatClampNeg x4) (((50 : Int32) + ((8 : Int32) * (t_s (4 : Int32).toNatClampNeg))) + (4 : Int32)).toNatClampNeg x5) (((50 : Int32) + ((8 : Int32) * (t_s (4 : Int32).toNatClampNeg))) + (5 : Int32)).toNatClampNeg x6) (((50 : Int32) + ((8 : Int32) * (t_s (4 : Int32).toNatClampNeg))) + (6 : Int32)).toNatClampNeg (0 : Int32)))) C S 1 rfl hv7 rfl dX8_comes_85 (fun H locs S => ?_)
  refine lv_aload_n (pc := 86) hx hb dX8_comes_86 rfl (lv_at hl 1 rfl) ?_
  refine x_get (pc := 87) (ci := 8) (T := TX8) (v := .ref a_t_s) C S 0 rfl rfl inlX8 0 (by decide) rfl qf_8_11 rfl dX8_comes_87 ?_
  refine lv_iconst (pc := 90) hx hb dX8_comes_90 ic_4 ?_
  refine lv_dup2_11 (pc := 91) hx hb dX8_comes_91 rfl rfl ?_
  refine x_iald (pc := 92) C S 1 rfl (vp_in_iff.mpr (by decide)) dX8_comes_92 ?_
  refine lv_iconst (pc := 93) hx hb dX8_comes_93 ic_1 ?_
  refine lv_iadd (pc := 94) hx hb dX8_comes_94 ?_
  refine x_iast (pc := 95) (ws' := (w_X8_comes G a_t a_t_s a_t_image a_t_mind a_t_aside a_t_text a_t_read a_t_comes a_t_begins a_t_latest a_t_move a_t_sort a_t_items a_t_cell a_t_carried t_isKept t_work t_kind t_letters t_at t_fault t_back t_waits t_miles t_loads t_bestRound t_bestPlace t_bestAdds t_regret t_z (upd (upd (upd (upd (upd (upd (upd (upd t_s ((50 : Int32) + ((8 : Int32) * (t_s (4 : Int32).toNatClampNeg))).toNatClampNeg x1) (((50 : Int32) + ((8 : Int32) * (t_s (4 : Int32).toNatClampNeg))) + (1 : Int32)).toNatClampNeg x2) (((50 : Int32) + ((8 : Int32) * (t_s (4 : Int32).toNatClampNeg))) + (2 : Int32)).toNatClampNeg x3) (((50 : Int32) + ((8 : Int32) * (t_s (4 : Int32).toNatClampNeg))) + (3 : Int32)).toNatClampNeg x4) (((50 : Int32) + ((8 : Int32) * (t_s (4 : Int32).toNatClampNeg))) + (4 : Int32)).toNatClampNeg x5) (((50 : Int32) + ((8 : Int32) * (t_s (4 : Int32).toNatClampNeg))) + (5 : Int32)).toNatClampNeg x6) (((50 : Int32) + ((8 : Int32) * (t_s (4 : Int32).toNatClampNeg))) + (6 : Int32)).toNatClampNeg (0 : Int32)) (4 : Int32).toNatClampNeg (((upd (upd (upd (upd (upd (upd (upd t_s ((50 : Int32) + ((8 : Int32) * (t_s (4 : Int32).toNatClampNeg))).toNatClampNeg x1) (((50 : Int32) + ((8 : Int32) * (t_s (4 : Int32).toNatClampNeg))) + (1 : Int32)).toNatClampNeg x2) (((50 : Int32) + ((8 : Int32) * (t_s (4 : Int32).toNatClampNeg))) + (2 : Int32)).toNatClampNeg x3) (((50 : Int32) + ((8 : Int32) * (t_s (4 : Int32).toNatClampNeg))) + (3 : Int32)).toNatClampNeg x4) (((50 : Int32) + ((8 : Int32) * (t_s (4 : Int32).toNatClampNeg))) + (4 : Int32)).toNatClampNeg x5) (((50 : Int32) + ((8 : Int32) * (t_s (4 : Int32).toNatClampNeg))) + (5 : Int32)).toNatClampNeg x6) (((50 : Int32) + ((8 : Int32) * (t_s (4 : Int32).toNatClampNeg))) + (6 : Int32)).toNatClampNeg (0 : Int32)) (4 : Int32).toNatClampNeg) + (1 : Int32))))) C S 1 rfl (vp_in_iff.mpr (by decide)) rfl dX8_comes_95 (fun H locs S => ?_)
  cases hf
  exact x_vret (pc := 96) C S dX8_comes_96
end

abbrev rm_X8_cheapestOf : Room := { frames := 6, cells := 0, slots := 0, locals := 145 }
abbrev kw_X8_cheapestOf : Cond := .code yX8_cheapestOf cX8_cheapestOf 5 (some .boolean)
abbrev w_X8_cheapestOf (G : GE) (a_t a_t_s a_t_image a_t_mind a_t_aside a_t_text a_t_read a_t_comes a_t_begins a_t_latest a_t_move a_t_sort a_t_items a_t_cell a_t_carried : Nat) (t_isKept : Int32) (t_work : Int32) (t_kind : Int32) (t_letters : Int32) (t_at : Int32) (t_fault : Int32) (t_back : Int32) (t_waits : Int32) (t_miles : Int32) (t_loads : Int32) (t_bestRound : Int32) (t_bestPlace : Int32) (t_bestAdds : Int32) (t_regret : Int32) (t_z : Int32) (t_s : Nat → Int32) (t_comes : Nat → Int32) (t_begins : Nat → Int32) : va_W := [(a_t, ob 8 [.ref a_t_s, .ref a_t_image, .ref a_t_mind, .ref a_t_aside, .int t_isKept, .int t_work, .int t_kind, .ref a_t_text, .ref a_t_read, .int t_letters, .int t_at, .int t_fault, .ref a_t_comes, .ref a_t_begins, .ref a_t_latest, .int t_back, .int t_waits, .int t_miles, .int t_loads, .int t_bestRound, .int t_bestPlace, .int t_bestAdds, .int t_regret, .ref a_t_move, .ref a_t_sort, .ref a_t_items, .ref a_t_cell, .ref a_t_carried, .int t_z]), (a_t_s, aI G 258 t_s), (a_t_comes, aI G 16 t_comes), (a_t_begins, aI G 16 t_begins)]
theorem u_X8_cheapestOf_X8_roundAt_59 {s : State} {args : Array Value} (hts : ∀ w ∈ WU, w.before args s = true) : CallW rm_X8_cheapestOf s args RX8 RX8 59 yX8_roundAt cX8_roundAt 3 (some .int) (kw_X8_roundAt :: WU) rm_X8_roundAt 0 0 2 := cwV 2 hts (gV qm_8_59 qi_X8_roundAt ql_X8_roundAt qn_8 qc_X8_roundAt) rfl rfl rfl (by decide +kernel) ⟨Nat.le_of_ble_eq_true rfl, Nat.le_of_ble_eq_true rfl⟩
theorem u_X8_cheapestOf_X8_added_174 {s : State} {args : Array Value} (hts : ∀ w ∈ WU, w.before args s = true) : CallW rm_X8_cheapestOf s args RX8 RX8 174 yX8_added cX8_added 6 (some .int) (kw_X8_added :: WU) rm_X8_added 0 0 3 := cwV 3 hts (gV qm_8_174 qi_X8_added ql_X8_added qn_8 qc_X8_added) rfl rfl rfl (by decide +kernel) ⟨Nat.le_of_ble_eq_true rfl, Nat.le_of_ble_eq_true rfl⟩
section
variable {p : Program} {l : Launch} {e : Env} {s : State} {m : MethodId} {args : Array Value} {below : List Frame} {meth : Method} {c : Code} {A : Nat → Prop} {G : GE} {a_t a_t_s a_t_image a_t_mind a_t_aside a_t_text a_t_read a_t_comes a_t_begins a_t_latest a_t_move a_t_sort a_t_items a_t_cell a_t_carried : Nat} {r : Int32} {z_t_s : Nat → Int32} {z_t_comes : Nat → Int32} {z_t_begins : Nat → Int32} {z_t_back : Int32} {z_t_waits : Int32} {z_t_loads : Int32} {z_t_bestPlace : Int32} {z_t_bestAdds : Int32}
set_option maxRecDepth 100000 in
set_option maxHeartbeats 4000000 in
theorem k_X8_cheapestOf_59 (C : Cx p s m args meth c cX8_cheapestOf (some .boolean) 5 RX8 G A) (t_isKept : Int32) (t_work : Int32) (t_kind : Int32) (t_letters : Int32) (t_at : Int32) (t_fault : Int32) (t_back : Int32) (t_waits : Int32) (t_miles : Int32) (t_loads : Int32) (t_bestRound : Int32) (t_bestPlace : Int32) (t_bestAdds : Int32) (t_regret : Int32) (t_z : Int32) (t_s : Nat → Int32) (t_comes : Nat → Int32) (t_begins : Nat → Int32) (x1 : Int32) (x2 : Int32) (x3 : Int32) (x4 : Int32) (k14 : Int32 × (Nat → Int32) × (Nat → Int32) × (Nat → Int32) × Int32 × Int32 × Int32 × Int32 × Int32 → Option (Int32 × (Nat → Int32) × (Nat → Int32) × (Nat → Int32) × Int32 × Int32 × Int32 × Int32 × Int32)) (hk14 : ∀ {H : Heap} {locs : List Loc} {ls : Array Slot} (x3' : Int32) (t_s' : Nat → Int32) (t_comes' : Nat → Int32) (t_begins' : Nat → Int32) (t_back' : Int32) (t_waits' : Int32) (t_loads' : Int32) (t_bestPlace' : Int32) (t_bestAdds' : Int32), k14 (x3', t_s', t_comes', t_begins', t_back', t_waits', t_loads', t_bestPlace', t_bestAdds') = some (r, z_t_s, z_t_comes, z_t_begins, z_t_back, z_t_waits, z_t_loads, z_t_bestPlace, z_t_bestAdds) → St G A s.heap H locs (w_X8_cheapestOf G a_t a_t_s a_t_image a_t_mind a_t_aside a_t_text a_t_read a_t_comes a_t_begins a_t_latest a_t_move a_t_sort a_t_items a_t_cell a_t_carried t_isKept t_work t_kind t_letters t_at t_fault t_back' t_waits' t_miles t_loads' t_bestRound t_bestPlace' t_bestAdds' t_regret t_z t_s' t_comes' t_begins') → lv_has ls 5 [(0, .ref a_t), (1, .int x1), (2, .int x2), (3, .int x3')] → W p l e rm_X8_cheapestOf s m args below meth c H locs 0 0 (QI G below args s A r (w_X8_cheapestOf G a_t a_t_s a_t_image a_t_mind a_t_aside a_t_text a_t_read a_t_comes a_t_begins a_t_latest a_t_move a_t_sort a_t_items a_t_cell a_t_carried t_isKept t_work t_kind t_letters t_at t_fault z_t_back z_t_waits t_miles z_t_loads t_bestRound z_t_bestPlace z_t_bestAdds t_regret t_z z_t_s z_t_comes z_t_begins)) (F0 m 14 ls [])) {H : Heap} {locs : List Loc} {ls : Array Slot} (hf : b_X8_cheapestOf_59 k14 x1 x2 x3 x4 t_s t_comes t_begins t_back t_waits t_loads = some (r, z_t_s, z_t_comes, z_t_begins, z_t_back, z_t_waits, z_t_loads, z_t_bestPlace, z_t_bestAdds)) (S : St G A s.heap H locs (w_X8_cheapestOf G a_t a_t_s a_t_image a_t_mind a_t_aside a_t_text a_t_read a_t_comes a_t_begins a_t_latest a_t_move a_t_sort a_t_items a_t_cell a_t_carried t_isKept t_work t_kind t_letters t_at t_fault t_back t_waits t_miles t_loads t_bestRound t_bestPlace t_bestAdds t_regret t_z t_s t_comes t_begins)) (hl : lv_has ls 5 [(0, .ref a_t), (1, .int x1), (2, .int x2), (3, .int x3), (4, .int x4)]) : W p l e rm_X8_cheapestOf s m args below meth c H locs 0 0 (QI G below args s A r (w_X8_cheapestOf G a_t a_t_s a_t_image a_t_mind a_t_aside a_t_text a_t_read a_t_comes a_t_begins a_t_latest a_t_move a_t_sort a_t_items a_t_cell a_t_carried t_isKept t_work t_kind t_letters t_at t_fault z_t_back z_t_waits t_miles z_t_loads t_bestRound z_t_bestPlace z_t_bestAdds t_regret t_z z_t_s z_t_comes z_t_begins)) (F0 m 59 ls []) := by
  unfold b_X8_cheapestOf_59 at hf
  have hx := C.1
  have hb := C.2.1
  have hown := C.2.2.2.2.1
  have hts := C.2.2.2.2.2.1
  have hN := C.2.2.2.2.2.2.2.2.2.2
  refine lv_aload_n (pc := 59) hx hb dX8_cheapestOf_59 rfl (lv_at hl 0 rfl) ?_
  refine lv_iload_n (pc := 60) hx hb dX8_cheapestOf_60 rfl (lv_at hl 3 rfl) ?_
  refine x_put (pc := 61) (ci := 8) (T := TX8) (ws' := (w_X8_cheapestOf G a_t a_t_s a_t_image a_t_mind a_t_aside a_t_text a_t_read a_t_comes a_t_begins a_t_latest a_t_move a_t_sort a_t_items a_t_cell a_t_carried t_isKept t_work t_kind t_letters t_at t_fault t_back t_waits t_miles t_loads t_bestRound x3 t_bestAdds t_regret t_z t_s t_comes t_begins)) C S tyX8 tyX8_ok nmX8 0 rfl rfl inlX8 20 (by decide) rfl qf_8_187 rfl rfl rfl rfl (Nat.le_of_ble_eq_true rfl) rfl dX8_cheapestOf_61 (fun H locs S => ?_)
  refine lv_aload_n (pc := 64) hx hb dX8_cheapestOf_64 rfl (lv_at hl 0 rfl) ?_
  refine lv_iload (pc := 65) hx hb dX8_cheapestOf_65 (lv_at hl 4 rfl) ?_
  refine x_put (pc := 67) (ci := 8) (T := TX8) (ws' := (w_X8_cheapestOf G a_t a_t_s a_t_image a_t_mind a_t_aside a_t_text a_t_read a_t_comes a_t_begins a_t_latest a_t_move a_t_sort a_t_items a_t_cell a_t_carried t_isKept t_work t_kind t_letters t_at t_fault t_back t_waits t_miles t_loads t_bestRound x3 x4 t_regret t_z t_s t_comes t_begins)) C S tyX8 tyX8_ok nmX8 0 rfl rfl inlX8 21 (by decide) rfl qf_8_190 rfl rfl rfl rfl (Nat.le_of_ble_eq_true rfl) rfl dX8_cheapestOf_67 (fun H locs S => ?_)
  refine lv_iinc (pc := 70) (v := (x3 + (1 : Int32))) (lv' := [(3, .int (x3 + (1 : Int32))), (0, .ref a_t), (1, .int x1), (2, .int x2), (4, .int x4)]) hx hb dX8_cheapestOf_70 hl (k := 3) rfl (congrArg (fun z => x3 + z) ic_1) (by decide) rfl (fun ls hl => ?_)
  refine lv_goto (tgt := 14) (pc := 73) hx hb dX8_cheapestOf_73 (by decide) ?_
  exact hk14 ((x3 + (1 : Int32))) (t_s) (t_comes) (t_begins) (t_back) (t_waits) (t_loads) (x3) (x4)  hf S (lv_sub hl [1, 2, 3, 0] rfl)
set_option maxRecDepth 100000 in
set_option maxHeartbeats 4000000 in
theorem k_X8_cheapestOf_14 (C : Cx p s m args meth c cX8_cheapestOf (some .boolean) 5 RX8 G A) (t_isKept : Int32) (t_work : Int32) (t_kind : Int32) (t_letters : Int32) (t_at : Int32) (t_fault : Int32) (t_back : Int32) (t_waits : Int32) (t_miles : Int32) (t_loads : Int32) (t_bestRound : Int32) (t_bestPlace : Int32) (t_bestAdds : Int32) (t_regret : Int32) (t_z : Int32) (t_s : Nat → Int32) (t_comes : Nat → Int32) (t_begins : Nat → Int32) (x1 : Int32) (x2 : Int32) (x3 : Int32) (k14 : Int32 × (Nat → Int32) × (Nat → Int32) × (Nat → Int32) × Int32 × Int32 × Int32 × Int32 × Int32 → Option (Int32 × (Nat → Int32) × (Nat → Int32) × (Nat → Int32) × Int32 × Int32 × Int32 × Int32 × Int32)) (hk14 : ∀ {H : Heap} {locs : List Loc} {ls : Array Slot} (x3' : Int32) (t_s' : Nat → Int32) (t_comes' : Nat → Int32) (t_begins' : Nat → Int32) (t_back' : Int32) (t_waits' : Int32) (t_loads' : Int32) (t_bestPlace' : Int32) (t_bestAdds' : Int32), k14 (x3', t_s', t_comes', t_begins', t_back', t_waits', t_loads', t_bestPlace', t_bestAdds') = some (r, z_t_s, z_t_comes, z_t_begins, z_t_back, z_t_waits, z_t_loads, z_t_bestPlace, z_t_bestAdds) → St G A s.heap H locs (w_X8_cheapestOf G a_t a_t_s a_t_image a_t_mind a_t_aside a_t_text a_t_read a_t_comes a_t_begins a_t_latest a_t_move a_t_sort a_t_items a_t_cell a_t_carried t_isKept t_work t_kind t_letters t_at t_fault t_back' t_waits' t_miles t_loads' t_bestRound t_bestPlace' t_bestAdds' t_regret t_z t_s' t_comes' t_begins') → lv_has ls 5 [(0, .ref a_t), (1, .int x1), (2, .int x2), (3, .int x3')] → W p l e rm_X8_cheapestOf s m args below meth c H locs 0 0 (QI G below args s A r (w_X8_cheapestOf G a_t a_t_s a_t_image a_t_mind a_t_aside a_t_text a_t_read a_t_comes a_t_begins a_t_latest a_t_move a_t_sort a_t_items a_t_cell a_t_carried t_isKept t_work t_kind t_letters t_at t_fault z_t_back z_t_waits t_miles z_t_loads t_bestRound z_t_bestPlace z_t_bestAdds t_regret t_z z_t_s z_t_comes z_t_begins)) (F0 m 14 ls [])) {H : Heap} {locs : List Loc} {ls : Array Slot} (hf : b_X8_cheapestOf_14 x1 x2 k14 x3 t_s t_comes t_begins t_back t_waits t_loads t_bestPlace t_bestAdds = some (r, z_t_s, z_t_comes, z_t_begins, z_t_back, z_t_waits, z_t_loads, z_t_bestPlace, z_t_bestAdds)) (S : St G A s.heap H locs (w_X8_cheapestOf G a_t a_t_s a_t_image a_t_mind a_t_aside a_t_text a_t_read a_t_comes a_t_begins a_t_latest a_t_move a_t_sort a_t_items a_t_cell a_t_carried t_isKept t_work t_kind t_letters t_at t_fault t_back t_waits t_miles t_loads t_bestRound t_bestPlace t_bestAdds t_regret t_z t_s t_comes t_begins)) (hl : lv_has ls 5 [(0, .ref a_t), (1, .int x1), (2, .int x2), (3, .int x3)]) : W p l e rm_X8_cheapestOf s m args below meth c H locs 0 0 (QI G below args s A r (w_X8_cheapestOf G a_t a_t_s a_t_image a_t_mind a_t_aside a_t_text a_t_read a_t_comes a_t_begins a_t_latest a_t_move a_t_sort a_t_items a_t_cell a_t_carried t_isKept t_work t_kind t_letters t_at t_fault z_t_back z_t_waits t_miles z_t_loads t_bestRound z_t_bestPlace z_t_bestAdds t_regret t_z z_t_s z_t_comes z_t_begins)) (F0 m 14 ls []) := by
  unfold b_X8_cheapestOf_14 at hf
  have hx := C.1
  have hb := C.2.1
  have hown := C.2.2.2.2.1
  have hts := C.2.2.2.2.2.1
  have hN := C.2.2.2.2.2.2.2.2.2.2
  refine lv_iload_n (pc := 14) hx hb dX8_cheapestOf_14 rfl (lv_at hl 3 rfl) ?_
  refine lv_aload_n (pc := 15) hx hb dX8_cheapestOf_15 rfl (lv_at hl 0 rfl) ?_
  refine lv_iload_n (pc := 16) hx hb dX8_cheapestOf_16 rfl (lv_at hl 2 rfl) ?_
  refine lv_iconst (pc := 17) hx hb dX8_cheapestOf_17 ic_3 ?_
  obtain ⟨r1, hq1, hf⟩ := bd_e hf
  refine x_vI (pc := 18) (As := [.int x2, .int (3 : Int32)]) (rest := [.int x3]) (isC := [0, 1]) (ws' := (w_X8_cheapestOf G a_t a_t_s a_t_image a_t_mind a_t_aside a_t_text a_t_read a_t_comes a_t_begins a_t_latest a_t_move a_t_sort a_t_items a_t_cell a_t_carried t_isKept t_work t_kind t_letters t_at t_fault t_back t_waits t_miles t_loads t_bestRound t_bestPlace t_bestAdds t_regret t_z t_s t_comes t_begins)) C S (c_X8_roundAt l G a_t a_t_s a_t_image a_t_mind a_t_aside a_t_text a_t_read a_t_comes a_t_begins a_t_latest a_t_move a_t_sort a_t_items a_t_cell a_t_carried t_isKept t_work t_kind t_letters t_at t_fault t_back t_waits t_miles t_loads t_bestRound t_bestPlace t_bestAdds t_regret t_z t_s x2 (3 : Int32) r1 hq1) (u_X8_cheapestOf_X8_roundAt_59 hts) (ci := 8) rfl 0 rfl rfl (by decide +kernel) [some 0, some 1, none, none] (by decide +kernel) rfl rfl rfl hl.1 rfl (Nat.le_of_ble_eq_true rfl) dX8_cheapestOf_18 (fun H locs S => ?_)
  refine lv_icmp_gt (tgt := 76) (pc := 21) hx hb dX8_cheapestOf_21 (by decide) (fun c2 => ?_) (fun c2 => ?_)
  · have hf := ifp c2 hf
    refine lv_aload_n (pc := 76) hx hb dX8_cheapestOf_76 rfl (lv_at hl 0 rfl) ?_
    refine x_get (pc := 77) (ci := 8) (T := TX8) (v := .int t_bestPlace) C S 0 rfl rfl inlX8 20 (by decide) rfl qf_8_187 rfl dX8_cheapestOf_77 ?_
    refine lv_if_lt (tgt := 87) (pc := 80) hx hb dX8_cheapestOf_80 (by decide) (fun c3 => ?_) (fun c3 => ?_)
    · have hf := ifp c3 hf
      refine lv_iconst (pc := 87) hx hb dX8_cheapestOf_87 ic_0 ?_
      cases hf
      exact x_zret (pc := 88) (by decide) C S dX8_cheapestOf_88
    · have hf := ifn c3 hf
      refine lv_iconst (pc := 83) hx hb dX8_cheapestOf_83 ic_1 ?_
      refine lv_goto (tgt := 88) (pc := 84) hx hb dX8_cheapestOf_84 (by decide) ?_
      cases hf
      exact x_zret (pc := 88) (by decide) C S dX8_cheapestOf_88
  · have hf := ifn c2 hf
    refine lv_aload_n (pc := 24) hx hb dX8_cheapestOf_24 rfl (lv_at hl 0 rfl) ?_
    refine lv_iload_n (pc := 25) hx hb dX8_cheapestOf_25 rfl (lv_at hl 1 rfl) ?_
    refine lv_iload_n (pc := 26) hx hb dX8_cheapestOf_26 rfl (lv_at hl 2 rfl) ?_
    refine lv_iload_n (pc := 27) hx hb dX8_cheapestOf_27 rfl (lv_at hl 3 rfl) ?_
    obtain ⟨⟨r4, o4_t_s, o4_t_comes, o4_t_begins, o4_t_back, o4_t_waits, o4_t_loads⟩, hq4, hf⟩ := bd_e hf
    refine x_vI (pc := 28) (As := [.int x1, .int x2, .int x3]) (rest := []) (isC := [0, 1, 2, 3]) (ws' := (w_X8_cheapestOf G a_t a_t_s a_t_image a_t_mind a_t_aside a_t_text a_t_read a_t_comes a_t_begins a_t_latest a_t_move a_t_sort a_t_items a_t_cell a_t_carried t_isKept t_work t_kind t_letters t_at t_fault o4_t_back o4_t_waits t_miles o4_t_loads t_bestRound t_bestPlace t_bestAdds t_regret t_z o4_t_s o4_t_comes o4_t_begins)) C S (c_X8_added l G a_t a_t_s a_t_image a_t_mind a_t_aside a_t_text a_t_read a_t_comes a_t_begins a_t_latest a_t_move a_t_sort a_t_items a_t_cell a_t_carried t_isKept t_work t_kind t_letters t_at t_fault t_back t_waits t_miles t_loads t_bestRound t_bestPlace t_bestAdds t_regret t_z t_s t_comes t_begins x1 x2 x3 r4 o4_t_s o4_t_comes o4_t_begins o4_t_back o4_t_waits o4_t_loads hq4) (u_X8_cheapestOf_X8_added_174 hts) (ci := 8) rfl 0 rfl rfl (by decide +kernel) [some 0, some 1, some 2, some 3] (by decide +kernel) rfl rfl rfl hl.1 rfl (Nat.le_of_ble_eq_true rfl) dX8_cheapestOf_28 (fun H locs S => ?_)
    refine lv_istore (pc := 31) (lv' := [(4, .int r4), (0, .ref a_t), (1, .int x1), (2, .int x2), (3, .int x3)]) hx hb dX8_cheapestOf_31 hl (by decide) rfl (fun ls hl => ?_)
    refine lv_iload (pc := 33) hx hb dX8_cheapestOf_33 (lv_at hl 0 rfl) ?_
    refine lv_ldc (pc := 35) hx hb hown (hts _ qk_8_169) dX8_cheapestOf_35 ?_
    refine lv_icmp_eq (tgt := 70) (pc := 37) hx hb dX8_cheapestOf_37 (by decide) (fun c5 => ?_) (fun c5 => ?_)
    · have hf := ifp c5 hf
      refine lv_iinc (pc := 70) (v := (x3 + (1 : Int32))) (lv' := [(3, .int (x3 + (1 : Int32))), (4, .int r4), (0, .ref a_t), (1, .int x1), (2, .int x2)]) hx hb dX8_cheapestOf_70 hl (k := 4) rfl (congrArg (fun z => x3 + z) ic_1) (by decide) rfl (fun ls hl => ?_)
      refine lv_goto (tgt := 14) (pc := 73) hx hb dX8_cheapestOf_73 (by decide) ?_
      exact hk14 ((x3 + (1 : Int32))) (o4_t_s) (o4_t_comes) (o4_t_begins) (o4_t_back) (o4_t_waits) (o4_t_loads) (t_bestPlace) (t_bestAdds)  hf S (lv_sub hl [2, 3, 4, 0] rfl)
    · have hf := ifn c5 hf
      refine lv_aload_n (pc := 40) hx hb dX8_cheapestOf_40 rfl (lv_at hl 1 rfl) ?_
      refine x_get (pc := 41) (ci := 8) (T := TX8) (v := .int t_bestPlace) C S 0 rfl rfl inlX8 20 (by decide) rfl qf_8_187 rfl dX8_cheapestOf_41 ?_
      refine lv_if_lt (tgt := 59) (pc := 44) hx hb dX8_cheapestOf_44 (by decide) (fun c6 => ?_) (fun c6 => ?_)
      · have hf := ifp c6 hf
        exact k_X8_cheapestOf_59 C (t_isKept) (t_work) (t_kind) (t_letters) (t_at) (t_fault) (o4_t_back) (o4_t_waits) (t_miles) (o4_t_loads) (t_bestRound) (t_bestPlace) (t_bestAdds) (t_regret) (t_z) (o4_t_s) (o4_t_comes) (o4_t_begins) (x1) (x2) (x3) (r4) k14 hk14 hf S (lv_sub hl [1, 2, 3, 4, 0] rfl)
      · have hf := ifn c6 hf
        refine lv_iload (pc := 47) hx hb dX8_cheapestOf_47 (lv_at hl 0 rfl) ?_
        refine lv_aload_n (pc := 49) hx hb dX8_cheapestOf_49 rfl (lv_at hl 1 rfl) ?_
        refine x_get (pc := 50) (ci := 8) (T := TX8) (v := .int t_bestAdds) C S 0 rfl rfl inlX8 21 (by decide) rfl qf_8_190 rfl dX8_cheapestOf_50 ?_
        refine lv_icmp_lt (tgt := 59) (pc := 53) hx hb dX8_cheapestOf_53 (by decide) (fun c7 => ?_) (fun c7 => ?_)
        · have hf := ifp c7 hf
          exact k_X8_cheapestOf_59 C (t_isKept) (t_work) (t_kind) (t_letters) (t_at) (t_fault) (o4_t_back) (o4_t_waits) (t_miles) (o4_t_loads) (t_bestRound) (t_bestPlace) (t_bestAdds) (t_regret) (t_z) (o4_t_s) (o4_t_comes) (o4_t_begins) (x1) (x2) (x3) (r4) k14 hk14 hf S (lv_sub hl [1, 2, 3, 4, 0] rfl)
        · have hf := ifn c7 hf
          refine lv_goto (tgt := 70) (pc := 56) hx hb dX8_cheapestOf_56 (by decide) ?_
          refine lv_iinc (pc := 70) (v := (x3 + (1 : Int32))) (lv' := [(3, .int (x3 + (1 : Int32))), (4, .int r4), (0, .ref a_t), (1, .int x1), (2, .int x2)]) hx hb dX8_cheapestOf_70 hl (k := 4) rfl (congrArg (fun z => x3 + z) ic_1) (by decide) rfl (fun ls hl => ?_)
          refine lv_goto (tgt := 14) (pc := 73) hx hb dX8_cheapestOf_73 (by decide) ?_
          exact hk14 ((x3 + (1 : Int32))) (o4_t_s) (o4_t_comes) (o4_t_begins) (o4_t_back) (o4_t_waits) (o4_t_loads) (t_bestPlace) (t_bestAdds)  hf S (lv_sub hl [2, 3, 4, 0] rfl)
set_option maxRecDepth 100000 in
set_option maxHeartbeats 4000000 in
theorem h_X8_cheapestOf_14 (C : Cx p s m args meth c cX8_cheapestOf (some .boolean) 5 RX8 G A) (t_isKept : Int32) (t_work : Int32) (t_kind : Int32) (t_letters : Int32) (t_at : Int32) (t_fault : Int32) (t_miles : Int32) (t_bestRound : Int32) (t_regret : Int32) (t_z : Int32) (x1 : Int32) (x2 : Int32) : ∀ (n : Nat) (x3 : Int32) (t_s : Nat → Int32) (t_comes : Nat → Int32) (t_begins : Nat → Int32) (t_back : Int32) (t_waits : Int32) (t_loads : Int32) (t_bestPlace : Int32) (t_bestAdds : Int32) {H : Heap} {locs : List Loc} {ls : Array Slot} (hf : lp (fun k x => b_X8_cheapestOf_14 x1 x2 k x.1 x.2.1 x.2.2.1 x.2.2.2.1 x.2.2.2.2.1 x.2.2.2.2.2.1 x.2.2.2.2.2.2.1 x.2.2.2.2.2.2.2.1 x.2.2.2.2.2.2.2.2) n (x3, t_s, t_comes, t_begins, t_back, t_waits, t_loads, t_bestPlace, t_bestAdds) = some (r, z_t_s, z_t_comes, z_t_begins, z_t_back, z_t_waits, z_t_loads, z_t_bestPlace, z_t_bestAdds)) (S : St G A s.heap H locs (w_X8_cheapestOf G a_t a_t_s a_t_image a_t_mind a_t_aside a_t_text a_t_read a_t_comes a_t_begins a_t_latest a_t_move a_t_sort a_t_items a_t_cell a_t_carried t_isKept t_work t_kind t_letters t_at t_fault t_back t_waits t_miles t_loads t_bestRound t_bestPlace t_bestAdds t_regret t_z t_s t_comes t_begins)) (hl : lv_has ls 5 [(0, .ref a_t), (1, .int x1), (2, .int x2), (3, .int x3)]), W p l e rm_X8_cheapestOf s m args below meth c H locs 0 0 (QI G below args s A r (w_X8_cheapestOf G a_t a_t_s a_t_image a_t_mind a_t_aside a_t_text a_t_read a_t_comes a_t_begins a_t_latest a_t_move a_t_sort a_t_items a_t_cell a_t_carried t_isKept t_work t_kind t_letters t_at t_fault z_t_back z_t_waits t_miles z_t_loads t_bestRound z_t_bestPlace z_t_bestAdds t_regret t_z z_t_s z_t_comes z_t_begins)) (F0 m 14 ls []) := by
  intro n
  induction n with
  | zero =>
    intro x3 t_s t_comes t_begins t_back t_waits t_loads t_bestPlace t_bestAdds  H locs ls hf
    cases hf
  | succ n ih =>
    intro x3 t_s t_comes t_begins t_back t_waits t_loads t_bestPlace t_bestAdds  H locs ls hf S hl
    have hf : b_X8_cheapestOf_14 x1 x2 (lp (fun k x => b_X8_cheapestOf_14 x1 x2 k x.1 x.2.1 x.2.2.1 x.2.2.2.1 x.2.2.2.2.1 x.2.2.2.2.2.1 x.2.2.2.2.2.2.1 x.2.2.2.2.2.2.2.1 x.2.2.2.2.2.2.2.2) n) x3 t_s t_comes t_begins t_back t_waits t_loads t_bestPlace t_bestAdds = some (r, z_t_s, z_t_comes, z_t_begins, z_t_back, z_t_waits, z_t_loads, z_t_bestPlace, z_t_bestAdds) := hf
    exact k_X8_cheapestOf_14 C t_isKept t_work t_kind t_letters t_at t_fault t_back t_waits t_miles t_loads t_bestRound t_bestPlace t_bestAdds t_regret t_z t_s t_comes t_begins x1 x2 x3  (lp (fun k x => b_X8_cheapestOf_14 x1 x2 k x.1 x.2.1 x.2.2.1 x.2.2.2.1 x.2.2.2.2.1 x.2.2.2.2.2.1 x.2.2.2.2.2.2.1 x.2.2.2.2.2.2.2.1 x.2.2.2.2.2.2.2.2) n) (fun x3' t_s' t_comes' t_begins' t_back' t_waits' t_loads' t_bestPlace' t_bestAdds'  h S hl => ih x3' t_s' t_comes' t_begins' t_back' t_waits' t_loads' t_bestPlace' t_bestAdds'  h S hl) hf S hl
set_option maxRecDepth 100000 in
set_option maxHeartbeats 4000000 in
theorem c_X8_cheapestOf (l : Launch) (G : GE) (a_t a_t_s a_t_image a_t_mind a_t_aside a_t_text a_t_read a_t_comes a_t_begins a_t_latest a_t_move a_t_sort a_t_items a_t_cell a_t_carried : Nat) (t_isKept : Int32) (t_work : Int32) (t_kind : Int32) (t_letters : Int32) (t_at : Int32) (t_fault : Int32) (t_back : Int32) (t_waits : Int32) (t_miles : Int32) (t_loads : Int32) (t_bestRound : Int32) (t_bestPlace : Int32) (t_bestAdds : Int32) (t_regret : Int32) (t_z : Int32) (t_s : Nat → Int32) (t_comes : Nat → Int32) (t_begins : Nat → Int32) (x1 : Int32) (x2 : Int32) (r : Int32) (z_t_s : Nat → Int32) (z_t_comes : Nat → Int32) (z_t_begins : Nat → Int32) (z_t_back : Int32) (z_t_waits : Int32) (z_t_loads : Int32) (z_t_bestPlace : Int32) (z_t_bestAdds : Int32) (hf : f_X8_cheapestOf t_s t_comes t_begins t_back t_waits t_loads x1 x2 = some (r, z_t_s, z_t_comes, z_t_begins, z_t_back, z_t_waits, z_t_loads, z_t_bestPlace, z_t_bestAdds)) : CI l G yX8_cheapestOf kw_X8_cheapestOf rm_X8_cheapestOf [.ref a_t, .int x1, .int x2] (w_X8_cheapestOf G a_t a_t_s a_t_image a_t_mind a_t_aside a_t_text a_t_read a_t_comes a_t_begins a_t_latest a_t_move a_t_sort a_t_items a_t_cell a_t_carried t_isKept t_work t_kind t_letters t_at t_fault t_back t_waits t_miles t_loads t_bestRound t_bestPlace t_bestAdds t_regret t_z t_s t_comes t_begins) r (w_X8_cheapestOf G a_t a_t_s a_t_image a_t_mind a_t_aside a_t_text a_t_read a_t_comes a_t_begins a_t_latest a_t_move a_t_sort a_t_items a_t_cell a_t_carried t_isKept t_work t_kind t_letters t_at t_fault z_t_back z_t_waits t_miles z_t_loads t_bestRound z_t_bestPlace z_t_bestAdds t_regret t_z z_t_s z_t_comes z_t_begins) := by
  refine en_I (cc := cX8_cheapestOf) (maxL := 5) (ret := (some .boolean)) (by decide +kernel) (Nat.le_of_ble_eq_true rfl) ?_
  intro p e s m args below meth c A ls C S hl
  have hl : lv_has ls 5 [(0, .ref a_t), (1, .int x1), (2, .int x2)] := hl
  have C : Cx p s m args meth c cX8_cheapestOf (some .boolean) 5 RX8 G A := C
  unfold f_X8_cheapestOf at hf
  have hx := C.1
  have hb := C.2.1
  have hown := C.2.2.2.2.1
  have hts := C.2.2.2.2.2.1
  have hN := C.2.2.2.2.2.2.2.2.2.2
  refine lv_aload_n (pc := 0) hx hb dX8_cheapestOf_0 rfl (lv_at hl 0 rfl) ?_
  refine lv_bipush (pc := 1) hx hb dX8_cheapestOf_1 bc_m5 ?_
  refine x_put (pc := 3) (ci := 8) (T := TX8) (ws' := (w_X8_cheapestOf G a_t a_t_s a_t_image a_t_mind a_t_aside a_t_text a_t_read a_t_comes a_t_begins a_t_latest a_t_move a_t_sort a_t_items a_t_cell a_t_carried t_isKept t_work t_kind t_letters t_at t_fault t_back t_waits t_miles t_loads t_bestRound (-5 : Int32) t_bestAdds t_regret t_z t_s t_comes t_begins)) C S tyX8 tyX8_ok nmX8 0 rfl rfl inlX8 20 (by decide) rfl qf_8_187 rfl rfl rfl rfl (Nat.le_of_ble_eq_true rfl) rfl dX8_cheapestOf_3 (fun H locs S => ?_)
  refine lv_aload_n (pc := 6) hx hb dX8_cheapestOf_6 rfl (lv_at hl 0 rfl) ?_
  refine lv_ldc (pc := 7) hx hb hown (hts _ qk_8_169) dX8_cheapestOf_7 ?_
  refine x_put (pc := 9) (ci := 8) (T := TX8) (ws' := (w_X8_cheapestOf G a_t a_t_s a_t_image a_t_mind a_t_aside a_t_text a_t_read a_t_comes a_t_begins a_t_latest a_t_move a_t_sort a_t_items a_t_cell a_t_carried t_isKept t_work t_kind t_letters t_at t_fault t_back t_waits t_miles t_loads t_bestRound (-5 : Int32) (-100000 : Int32) t_regret t_z t_s t_comes t_begins)) C S tyX8 tyX8_ok nmX8 0 rfl rfl inlX8 21 (by decide) rfl qf_8_190 rfl rfl rfl rfl (Nat.le_of_ble_eq_true rfl) rfl dX8_cheapestOf_9 (fun H locs S => ?_)
  refine lv_iconst (pc := 12) hx hb dX8_cheapestOf_12 ic_0 ?_
  refine lv_istore_n (pc := 13) (lv' := [(3, .int (0 : Int32)), (0, .ref a_t), (1, .int x1), (2, .int x2)]) hx hb dX8_cheapestOf_13 rfl hl (by decide) rfl (fun ls hl => ?_)
  exact h_X8_cheapestOf_14 C (t_isKept) (t_work) (t_kind) (t_letters) (t_at) (t_fault) (t_miles) (t_bestRound) (t_regret) (t_z) (x1) (x2) fu ((0 : Int32)) (t_s) (t_comes) (t_begins) (t_back) (t_waits) (t_loads) ((-5 : Int32)) ((-100000 : Int32)) hf S (lv_sub hl [1, 2, 3, 0] rfl)
end

abbrev rm_X8_cheapestOfAll : Room := { frames := 7, cells := 0, slots := 0, locals := 169 }
abbrev kw_X8_cheapestOfAll : Cond := .code yX8_cheapestOfAll cX8_cheapestOfAll 6 (some .boolean)
abbrev w_X8_cheapestOfAll (G : GE) (a_t a_t_s a_t_image a_t_mind a_t_aside a_t_text a_t_read a_t_comes a_t_begins a_t_latest a_t_move a_t_sort a_t_items a_t_cell a_t_carried : Nat) (t_isKept : Int32) (t_work : Int32) (t_kind : Int32) (t_letters : Int32) (t_at : Int32) (t_fault : Int32) (t_back : Int32) (t_waits : Int32) (t_miles : Int32) (t_loads : Int32) (t_bestRound : Int32) (t_bestPlace : Int32) (t_bestAdds : Int32) (t_regret : Int32) (t_z : Int32) (t_s : Nat → Int32) (t_comes : Nat → Int32) (t_begins : Nat → Int32) : va_W := [(a_t, ob 8 [.ref a_t_s, .ref a_t_image, .ref a_t_mind, .ref a_t_aside, .int t_isKept, .int t_work, .int t_kind, .ref a_t_text, .ref a_t_read, .int t_letters, .int t_at, .int t_fault, .ref a_t_comes, .ref a_t_begins, .ref a_t_latest, .int t_back, .int t_waits, .int t_miles, .int t_loads, .int t_bestRound, .int t_bestPlace, .int t_bestAdds, .int t_regret, .ref a_t_move, .ref a_t_sort, .ref a_t_items, .ref a_t_cell, .ref a_t_carried, .int t_z]), (a_t_s, aI G 258 t_s), (a_t_comes, aI G 16 t_comes), (a_t_begins, aI G 16 t_begins)]
theorem u_X8_cheapestOfAll_X8_cheapestOf_196 {s : State} {args : Array Value} (hts : ∀ w ∈ WU, w.before args s = true) : CallW rm_X8_cheapestOfAll s args RX8 RX8 196 yX8_cheapestOf cX8_cheapestOf 5 (some .boolean) (kw_X8_cheapestOf :: WU) rm_X8_cheapestOf 0 0 2 := cwV 2 hts (gV qm_8_196 qi_X8_cheapestOf ql_X8_cheapestOf qn_8 qc_X8_cheapestOf) rfl rfl rfl (by decide +kernel) ⟨Nat.le_of_ble_eq_true rfl, Nat.le_of_ble_eq_true rfl⟩
section
variable {p : Program} {l : Launch} {e : Env} {s : State} {m : MethodId} {args : Array Value} {below : List Frame} {meth : Method} {c : Code} {A : Nat → Prop} {G : GE} {a_t a_t_s a_t_image a_t_mind a_t_aside a_t_text a_t_read a_t_comes a_t_begins a_t_latest a_t_move a_t_sort a_t_items a_t_cell a_t_carried : Nat} {r : Int32} {z_t_s : Nat → Int32} {z_t_comes : Nat → Int32} {z_t_begins : Nat → Int32} {z_t_back : Int32} {z_t_waits : Int32} {z_t_loads : Int32} {z_t_bestRound : Int32} {z_t_bestPlace : Int32} {z_t_bestAdds : Int32} {z_t_regret : Int32}
set_option maxRecDepth 100000 in
set_option maxHeartbeats 4000000 in
theorem k_X8_cheapestOfAll_131 (C : Cx p s m args meth c cX8_cheapestOfAll (some .boolean) 6 RX8 G A) (t_isKept : Int32) (t_work : Int32) (t_kind : Int32) (t_letters : Int32) (t_at : Int32) (t_fault : Int32) (t_back : Int32) (t_waits : Int32) (t_miles : Int32) (t_loads : Int32) (t_bestRound : Int32) (t_bestPlace : Int32) (t_bestAdds : Int32) (t_regret : Int32) (t_z : Int32) (t_s : Nat → Int32) (t_comes : Nat → Int32) (t_begins : Nat → Int32) (y1 : Int32) {H : Heap} {locs : List Loc} {ls : Array Slot} (hf : b_X8_cheapestOfAll_131 y1 t_s t_comes t_begins t_back t_waits t_loads t_bestRound t_bestPlace t_bestAdds = some (r, z_t_s, z_t_comes, z_t_begins, z_t_back, z_t_waits, z_t_loads, z_t_bestRound, z_t_bestPlace, z_t_bestAdds, z_t_regret)) (S : St G A s.heap H locs (w_X8_cheapestOfAll G a_t a_t_s a_t_image a_t_mind a_t_aside a_t_text a_t_read a_t_comes a_t_begins a_t_latest a_t_move a_t_sort a_t_items a_t_cell a_t_carried t_isKept t_work t_kind t_letters t_at t_fault t_back t_waits t_miles t_loads t_bestRound t_bestPlace t_bestAdds t_regret t_z t_s t_comes t_begins)) (hl : lv_has ls 6 [(0, .ref a_t)]) : W p l e rm_X8_cheapestOfAll s m args below meth c H locs 0 0 (QI G below args s A r (w_X8_cheapestOfAll G a_t a_t_s a_t_image a_t_mind a_t_aside a_t_text a_t_read a_t_comes a_t_begins a_t_latest a_t_move a_t_sort a_t_items a_t_cell a_t_carried t_isKept t_work t_kind t_letters t_at t_fault z_t_back z_t_waits t_miles z_t_loads z_t_bestRound z_t_bestPlace z_t_bestAdds z_t_regret t_z z_t_s z_t_comes z_t_begins)) (F0 m 131 ls [.int y1, .ref a_t]) := by
  unfold b_X8_cheapestOfAll_131 at hf
  have hx := C.1
  have hb := C.2.1
  have hown := C.2.2.2.2.1
  have hts := C.2.2.2.2.2.1
  have hN := C.2.2.2.2.2.2.2.2.2.2
  refine x_put (pc := 131) (ci := 8) (T := TX8) (ws' := (w_X8_cheapestOfAll G a_t a_t_s a_t_image a_t_mind a_t_aside a_t_text a_t_read a_t_comes a_t_begins a_t_latest a_t_move a_t_sort a_t_items a_t_cell a_t_carried t_isKept t_work t_kind t_letters t_at t_fault t_back t_waits t_miles t_loads t_bestRound t_bestPlace t_bestAdds y1 t_z t_s t_comes t_begins)) C S tyX8 tyX8_ok nmX8 0 rfl rfl inlX8 22 (by decide) rfl qf_8_199 rfl rfl rfl rfl (Nat.le_of_ble_eq_true rfl) rfl dX8_cheapestOfAll_131 (fun H locs S => ?_)
  refine lv_aload_n (pc := 134) hx hb dX8_cheapestOfAll_134 rfl (lv_at hl 0 rfl) ?_
  refine x_get (pc := 135) (ci := 8) (T := TX8) (v := .int t_bestRound) C S 0 rfl rfl inlX8 19 (by decide) rfl qf_8_193 rfl dX8_cheapestOfAll_135 ?_
  refine lv_if_lt (tgt := 145) (pc := 138) hx hb dX8_cheapestOfAll_138 (by decide) (fun c1 => ?_) (fun c1 => ?_)
  · have hf := ifp c1 hf
    refine lv_iconst (pc := 145) hx hb dX8_cheapestOfAll_145 ic_0 ?_
    cases hf
    exact x_zret (pc := 146) (by decide) C S dX8_cheapestOfAll_146
  · have hf := ifn c1 hf
    refine lv_iconst (pc := 141) hx hb dX8_cheapestOfAll_141 ic_1 ?_
    refine lv_goto (tgt := 146) (pc := 142) hx hb dX8_cheapestOfAll_142 (by decide) ?_
    cases hf
    exact x_zret (pc := 146) (by decide) C S dX8_cheapestOfAll_146
set_option maxRecDepth 100000 in
set_option maxHeartbeats 4000000 in
theorem k_X8_cheapestOfAll_53 (C : Cx p s m args meth c cX8_cheapestOfAll (some .boolean) 6 RX8 G A) (t_isKept : Int32) (t_work : Int32) (t_kind : Int32) (t_letters : Int32) (t_at : Int32) (t_fault : Int32) (t_back : Int32) (t_waits : Int32) (t_miles : Int32) (t_loads : Int32) (t_bestRound : Int32) (t_bestPlace : Int32) (t_bestAdds : Int32) (t_regret : Int32) (t_z : Int32) (t_s : Nat → Int32) (t_comes : Nat → Int32) (t_begins : Nat → Int32) (x1 : Int32) (x3 : Int32) (x5 : Int32) (k19 : Int32 × Int32 × Int32 × Int32 × (Nat → Int32) × (Nat → Int32) × (Nat → Int32) × Int32 × Int32 × Int32 × Int32 → Option (Int32 × (Nat → Int32) × (Nat → Int32) × (Nat → Int32) × Int32 × Int32 × Int32 × Int32 × Int32 × Int32 × Int32)) (hk19 : ∀ {H : Heap} {locs : List Loc} {ls : Array Slot} (x2' : Int32) (x3' : Int32) (x4' : Int32) (x5' : Int32) (t_s' : Nat → Int32) (t_comes' : Nat → Int32) (t_begins' : Nat → Int32) (t_back' : Int32) (t_waits' : Int32) (t_loads' : Int32) (t_bestRound' : Int32) (t_bestPlace' : Int32) (t_bestAdds' : Int32), k19 (x2', x3', x4', x5', t_s', t_comes', t_begins', t_back', t_waits', t_loads', t_bestRound') = some (r, z_t_s, z_t_comes, z_t_begins, z_t_back, z_t_waits, z_t_loads, z_t_bestRound, z_t_bestPlace, z_t_bestAdds, z_t_regret) → St G A s.heap H locs (w_X8_cheapestOfAll G a_t a_t_s a_t_image a_t_mind a_t_aside a_t_text a_t_read a_t_comes a_t_begins a_t_latest a_t_move a_t_sort a_t_items a_t_cell a_t_carried t_isKept t_work t_kind t_letters t_at t_fault t_back' t_waits' t_miles t_loads' t_bestRound' t_bestPlace' t_bestAdds' t_regret t_z t_s' t_comes' t_begins') → lv_has ls 6 [(0, .ref a_t), (1, .int x1), (2, .int x2'), (3, .int x3'), (4, .int x4'), (5, .int x5')] → W p l e rm_X8_cheapestOfAll s m args below meth c H locs 0 0 (QI G below args s A r (w_X8_cheapestOfAll G a_t a_t_s a_t_image a_t_mind a_t_aside a_t_text a_t_read a_t_comes a_t_begins a_t_latest a_t_move a_t_sort a_t_items a_t_cell a_t_carried t_isKept t_work t_kind t_letters t_at t_fault z_t_back z_t_waits t_miles z_t_loads z_t_bestRound z_t_bestPlace z_t_bestAdds z_t_regret t_z z_t_s z_t_comes z_t_begins)) (F0 m 19 ls [])) {H : Heap} {locs : List Loc} {ls : Array Slot} (hf : b_X8_cheapestOfAll_53 k19 x1 x3 x5 t_s t_comes t_begins t_back t_waits t_loads t_bestPlace t_bestAdds = some (r, z_t_s, z_t_comes, z_t_begins, z_t_back, z_t_waits, z_t_loads, z_t_bestRound, z_t_bestPlace, z_t_bestAdds, z_t_regret)) (S : St G A s.heap H locs (w_X8_cheapestOfAll G a_t a_t_s a_t_image a_t_mind a_t_aside a_t_text a_t_read a_t_comes a_t_begins a_t_latest a_t_move a_t_sort a_t_items a_t_cell a_t_carried t_isKept t_work t_kind t_letters t_at t_fault t_back t_waits t_miles t_loads t_bestRound t_bestPlace t_bestAdds t_regret t_z t_s t_comes t_begins)) (hl : lv_has ls 6 [(0, .ref a_t), (1, .int x1), (3, .int x3), (5, .int x5)]) : W p l e rm_X8_cheapestOfAll s m args below meth c H locs 0 0 (QI G below args s A r (w_X8_cheapestOfAll G a_t a_t_s a_t_image a_t_mind a_t_aside a_t_text a_t_read a_t_comes a_t_begins a_t_latest a_t_move a_t_sort a_t_items a_t_cell a_t_carried t_isKept t_work t_kind t_letters t_at t_fault z_t_back z_t_waits t_miles z_t_loads z_t_bestRound z_t_bestPlace z_t_bestAdds z_t_regret t_z z_t_s z_t_comes z_t_begins)) (F0 m 53 ls []) := by
  unfold b_X8_cheapestOfAll_53 at hf
  have hx := C.1
  have hb := C.2.1
  have hown := C.2.2.2.2.1
  have hts := C.2.2.2.2.2.1
  have hN := C.2.2.2.2.2.2.2.2.2.2
  refine lv_iload_n (pc := 53) hx hb dX8_cheapestOfAll_53 rfl (lv_at hl 2 rfl) ?_
  refine lv_istore (pc := 54) (lv' := [(4, .int x3), (0, .ref a_t), (1, .int x1), (3, .int x3), (5, .int x5)]) hx hb dX8_cheapestOfAll_54 hl (by decide) rfl (fun ls hl => ?_)
  refine lv_aload_n (pc := 56) hx hb dX8_cheapestOfAll_56 rfl (lv_at hl 1 rfl) ?_
  refine x_get (pc := 57) (ci := 8) (T := TX8) (v := .int t_bestAdds) C S 0 rfl rfl inlX8 21 (by decide) rfl qf_8_190 rfl dX8_cheapestOfAll_57 ?_
  refine lv_istore_n (pc := 60) (lv' := [(3, .int t_bestAdds), (4, .int x3), (0, .ref a_t), (1, .int x1), (5, .int x5)]) hx hb dX8_cheapestOfAll_60 rfl hl (by decide) rfl (fun ls hl => ?_)
  refine lv_aload_n (pc := 61) hx hb dX8_cheapestOfAll_61 rfl (lv_at hl 2 rfl) ?_
  refine x_get (pc := 62) (ci := 8) (T := TX8) (v := .int t_bestPlace) C S 0 rfl rfl inlX8 20 (by decide) rfl qf_8_187 rfl dX8_cheapestOfAll_62 ?_
  refine lv_istore_n (pc := 65) (lv' := [(2, .int t_bestPlace), (3, .int t_bestAdds), (4, .int x3), (0, .ref a_t), (1, .int x1), (5, .int x5)]) hx hb dX8_cheapestOfAll_65 rfl hl (by decide) rfl (fun ls hl => ?_)
  refine lv_aload_n (pc := 66) hx hb dX8_cheapestOfAll_66 rfl (lv_at hl 3 rfl) ?_
  refine lv_iload (pc := 67) hx hb dX8_cheapestOfAll_67 (lv_at hl 5 rfl) ?_
  refine x_put (pc := 69) (ci := 8) (T := TX8) (ws' := (w_X8_cheapestOfAll G a_t a_t_s a_t_image a_t_mind a_t_aside a_t_text a_t_read a_t_comes a_t_begins a_t_latest a_t_move a_t_sort a_t_items a_t_cell a_t_carried t_isKept t_work t_kind t_letters t_at t_fault t_back t_waits t_miles t_loads x5 t_bestPlace t_bestAdds t_regret t_z t_s t_comes t_begins)) C S tyX8 tyX8_ok nmX8 0 rfl rfl inlX8 19 (by decide) rfl qf_8_193 rfl rfl rfl rfl (Nat.le_of_ble_eq_true rfl) rfl dX8_cheapestOfAll_69 (fun H locs S => ?_)
  refine lv_goto (tgt := 97) (pc := 72) hx hb dX8_cheapestOfAll_72 (by decide) ?_
  refine lv_iinc (pc := 97) (v := (x5 + (1 : Int32))) (lv' := [(5, .int (x5 + (1 : Int32))), (2, .int t_bestPlace), (3, .int t_bestAdds), (4, .int x3), (0, .ref a_t), (1, .int x1)]) hx hb dX8_cheapestOfAll_97 hl (k := 5) rfl (congrArg (fun z => x5 + z) ic_1) (by decide) rfl (fun ls hl => ?_)
  refine lv_goto (tgt := 19) (pc := 100) hx hb dX8_cheapestOfAll_100 (by decide) ?_
  exact hk19 (t_bestPlace) (t_bestAdds) (x3) ((x5 + (1 : Int32))) (t_s) (t_comes) (t_begins) (t_back) (t_waits) (t_loads) (x5) (t_bestPlace) (t_bestAdds) hf S (lv_sub hl [4, 5, 1, 2, 3, 0] rfl)
set_option maxRecDepth 100000 in
set_option maxHeartbeats 4000000 in
theorem k_X8_cheapestOfAll_19 (C : Cx p s m args meth c cX8_cheapestOfAll (some .boolean) 6 RX8 G A) (t_isKept : Int32) (t_work : Int32) (t_kind : Int32) (t_letters : Int32) (t_at : Int32) (t_fault : Int32) (t_back : Int32) (t_waits : Int32) (t_miles : Int32) (t_loads : Int32) (t_bestRound : Int32) (t_bestPlace : Int32) (t_bestAdds : Int32) (t_regret : Int32) (t_z : Int32) (t_s : Nat → Int32) (t_comes : Nat → Int32) (t_begins : Nat → Int32) (x1 : Int32) (x2 : Int32) (x3 : Int32) (x4 : Int32) (x5 : Int32) (k19 : Int32 × Int32 × Int32 × Int32 × (Nat → Int32) × (Nat → Int32) × (Nat → Int32) × Int32 × Int32 × Int32 × Int32 → Option (Int32 × (Nat → Int32) × (Nat → Int32) × (Nat → Int32) × Int32 × Int32 × Int32 × Int32 × Int32 × Int32 × Int32)) (hk19 : ∀ {H : Heap} {locs : List Loc} {ls : Array Slot} (x2' : Int32) (x3' : Int32) (x4' : Int32) (x5' : Int32) (t_s' : Nat → Int32) (t_comes' : Nat → Int32) (t_begins' : Nat → Int32) (t_back' : Int32) (t_waits' : Int32) (t_loads' : Int32) (t_bestRound' : Int32) (t_bestPlace' : Int32) (t_bestAdds' : Int32), k19 (x2', x3', x4', x5', t_s', t_comes', t_begins', t_back', t_waits', t_loads', t_bestRound') = some (r, z_t_s, z_t_comes, z_t_begins, z_t_back, z_t_waits, z_t_loads, z_t_bestRound, z_t_bestPlace, z_t_bestAdds, z_t_regret) → St G A s.heap H locs (w_X8_cheapestOfAll G a_t a_t_s a_t_image a_t_mind a_t_aside a_t_text a_t_read a_t_comes a_t_begins a_t_latest a_t_move a_t_sort a_t_items a_t_cell a_t_carried t_isKept t_work t_kind t_letters t_at t_fault t_back' t_waits' t_miles t_loads' t_bestRound' t_bestPlace' t_bestAdds' t_regret t_z t_s' t_comes' t_begins') → lv_has ls 6 [(0, .ref a_t), (1, .int x1), (2, .int x2'), (3, .int x3'), (4, .int x4'), (5, .int x5')] → W p l e rm_X8_cheapestOfAll s m args below meth c H locs 0 0 (QI G below args s A r (w_X8_cheapestOfAll G a_t a_t_s a_t_image a_t_mind a_t_aside a_t_text a_t_read a_t_comes a_t_begins a_t_latest a_t_move a_t_sort a_t_items a_t_cell a_t_carried t_isKept t_work t_kind t_letters t_at t_fault z_t_back z_t_waits t_miles z_t_loads z_t_bestRound z_t_bestPlace z_t_bestAdds z_t_regret t_z z_t_s z_t_comes z_t_begins)) (F0 m 19 ls [])) {H : Heap} {locs : List Loc} {ls : Array Slot} (hf : b_X8_cheapestOfAll_19 x1 k19 x2 x3 x4 x5 t_s t_comes t_begins t_back t_waits t_loads t_bestRound = some (r, z_t_s, z_t_comes, z_t_begins, z_t_back, z_t_waits, z_t_loads, z_t_bestRound, z_t_bestPlace, z_t_bestAdds, z_t_regret)) (S : St G A s.heap H locs (w_X8_cheapestOfAll G a_t a_t_s a_t_image a_t_mind a_t_aside a_t_text a_t_read a_t_comes a_t_begins a_t_latest a_t_move a_t_sort a_t_items a_t_cell a_t_carried t_isKept t_work t_kind t_letters t_at t_fault t_back t_waits t_miles t_loads t_bestRound t_bestPlace t_bestAdds t_regret t_z t_s t_comes t_begins)) (hl : lv_has ls 6 [(0, .ref a_t), (1, .int x1), (2, .int x2), (3, .int x3), (4, .int x4), (5, .int x5)]) : W p l e rm_X8_cheapestOfAll s m args below meth c H locs 0 0 (QI G below args s A r (w_X8_cheapestOfAll G a_t a_t_s a_t_image a_t_mind a_t_aside a_t_text a_t_read a_t_comes a_t_begins a_t_latest a_t_move a_t_sort a_t_items a_t_cell a_t_carried t_isKept t_work t_kind t_letters t_at t_fault z_t_back z_t_waits t_miles z_t_loads z_t_bestRound z_t_bestPlace z_t_bestAdds z_t_regret t_z z_t_s z_t_comes z_t_begins)) (F0 m 19 ls []) := by
  unfold b_X8_cheapestOfAll_19 at hf
  have hx := C.1
  have hb := C.2.1
  have hown := C.2.2.2.2.1
  have hts := C.2.2.2.2.2.1
  have hN := C.2.2.2.2.2.2.2.2.2.2
  refine lv_iload (pc := 19) hx hb dX8_cheapestOfAll_19 (lv_at hl 5 rfl) ?_
  refine lv_iconst (pc := 21) hx hb dX8_cheapestOfAll_21 ic_4 ?_
  refine lv_icmp_ge (tgt := 103) (pc := 22) hx hb dX8_cheapestOfAll_22 (by decide) (fun c1 => ?_) (fun c1 => ?_)
  · have hf := ifp c1 hf
    refine lv_aload_n (pc := 103) hx hb dX8_cheapestOfAll_103 rfl (lv_at hl 0 rfl) ?_
    refine lv_iload_n (pc := 104) hx hb dX8_cheapestOfAll_104 rfl (lv_at hl 2 rfl) ?_
    refine x_put (pc := 105) (ci := 8) (T := TX8) (ws' := (w_X8_cheapestOfAll G a_t a_t_s a_t_image a_t_mind a_t_aside a_t_text a_t_read a_t_comes a_t_begins a_t_latest a_t_move a_t_sort a_t_items a_t_cell a_t_carried t_isKept t_work t_kind t_letters t_at t_fault t_back t_waits t_miles t_loads t_bestRound x2 t_bestAdds t_regret t_z t_s t_comes t_begins)) C S tyX8 tyX8_ok nmX8 0 rfl rfl inlX8 20 (by decide) rfl qf_8_187 rfl rfl rfl rfl (Nat.le_of_ble_eq_true rfl) rfl dX8_cheapestOfAll_105 (fun H locs S => ?_)
    refine lv_aload_n (pc := 108) hx hb dX8_cheapestOfAll_108 rfl (lv_at hl 0 rfl) ?_
    refine lv_iload_n (pc := 109) hx hb dX8_cheapestOfAll_109 rfl (lv_at hl 3 rfl) ?_
    refine x_put (pc := 110) (ci := 8) (T := TX8) (ws' := (w_X8_cheapestOfAll G a_t a_t_s a_t_image a_t_mind a_t_aside a_t_text a_t_read a_t_comes a_t_begins a_t_latest a_t_move a_t_sort a_t_items a_t_cell a_t_carried t_isKept t_work t_kind t_letters t_at t_fault t_back t_waits t_miles t_loads t_bestRound x2 x3 t_regret t_z t_s t_comes t_begins)) C S tyX8 tyX8_ok nmX8 0 rfl rfl inlX8 21 (by decide) rfl qf_8_190 rfl rfl rfl rfl (Nat.le_of_ble_eq_true rfl) rfl dX8_cheapestOfAll_110 (fun H locs S => ?_)
    refine lv_aload_n (pc := 113) hx hb dX8_cheapestOfAll_113 rfl (lv_at hl 0 rfl) ?_
    refine lv_iload (pc := 114) hx hb dX8_cheapestOfAll_114 (lv_at hl 4 rfl) ?_
    refine lv_ldc (pc := 116) hx hb hown (hts _ qk_8_169) dX8_cheapestOfAll_116 ?_
    refine lv_icmp_ne (tgt := 127) (pc := 118) hx hb dX8_cheapestOfAll_118 (by decide) (fun c2 => ?_) (fun c2 => ?_)
    · have hf := ifn c2 hf
      refine lv_iload (pc := 127) hx hb dX8_cheapestOfAll_127 (lv_at hl 4 rfl) ?_
      refine lv_iload_n (pc := 129) hx hb dX8_cheapestOfAll_129 rfl (lv_at hl 3 rfl) ?_
      refine lv_isub (pc := 130) hx hb dX8_cheapestOfAll_130 ?_
      exact k_X8_cheapestOfAll_131 C (t_isKept) (t_work) (t_kind) (t_letters) (t_at) (t_fault) (t_back) (t_waits) (t_miles) (t_loads) (t_bestRound) (x2) (x3) (t_regret) (t_z) (t_s) (t_comes) (t_begins) ((x4 - x3)) hf S (lv_sub hl [0] rfl)
    · have hf := ifp c2 hf
      refine lv_sipush (pc := 121) hx hb dX8_cheapestOfAll_121 sc_10000 ?_
      refine lv_goto (tgt := 131) (pc := 124) hx hb dX8_cheapestOfAll_124 (by decide) ?_
      exact k_X8_cheapestOfAll_131 C (t_isKept) (t_work) (t_kind) (t_letters) (t_at) (t_fault) (t_back) (t_waits) (t_miles) (t_loads) (t_bestRound) (x2) (x3) (t_regret) (t_z) (t_s) (t_comes) (t_begins) ((10000 : Int32)) hf S (lv_sub hl [0] rfl)
  · have hf := ifn c1 hf
    refine lv_aload_n (pc := 25) hx hb dX8_cheapestOfAll_25 rfl (lv_at hl 0 rfl) ?_
    refine lv_iload_n (pc := 26) hx hb dX8_cheapestOfAll_26 rfl (lv_at hl 1 rfl) ?_
    refine lv_iload (pc := 27) hx hb dX8_cheapestOfAll_27 (lv_at hl 5 rfl) ?_
    obtain ⟨⟨r3, o3_t_s, o3_t_comes, o3_t_begins, o3_t_back, o3_t_waits, o3_t_loads, o3_t_bestPlace, o3_t_bestAdds⟩, hq3, hf⟩ := bd_e hf
    refine x_vI (pc := 29) (As := [.int x1, .int x5]) (rest := []) (isC := [0, 1, 2, 3]) (ws' := (w_X8_cheapestOfAll G a_t a_t_s a_t_image a_t_mind a_t_aside a_t_text a_t_read a_t_comes a_t_begins a_t_latest a_t_move a_t_sort a_t_items a_t_cell a_t_carried t_isKept t_work t_kind t_letters t_at t_fault o3_t_back o3_t_waits t_miles o3_t_loads t_bestRound o3_t_bestPlace o3_t_bestAdds t_regret t_z o3_t_s o3_t_comes o3_t_begins)) C S (c_X8_cheapestOf l G a_t a_t_s a_t_image a_t_mind a_t_aside a_t_text a_t_read a_t_comes a_t_begins a_t_latest a_t_move a_t_sort a_t_items a_t_cell a_t_carried t_isKept t_work t_kind t_letters t_at t_fault t_back t_waits t_miles t_loads t_bestRound t_bestPlace t_bestAdds t_regret t_z t_s t_comes t_begins x1 x5 r3 o3_t_s o3_t_comes o3_t_begins o3_t_back o3_t_waits o3_t_loads o3_t_bestPlace o3_t_bestAdds hq3) (u_X8_cheapestOfAll_X8_cheapestOf_196 hts) (ci := 8) rfl 0 rfl rfl (by decide +kernel) [some 0, some 1, some 2, some 3] (by decide +kernel) rfl rfl rfl hl.1 rfl (Nat.le_of_ble_eq_true rfl) dX8_cheapestOfAll_29 (fun H locs S => ?_)
    refine lv_if_ne (tgt := 38) (pc := 32) hx hb dX8_cheapestOfAll_32 (by decide) (fun c4 => ?_) (fun c4 => ?_)
    · have hf := ifn c4 hf
      refine lv_aload_n (pc := 38) hx hb dX8_cheapestOfAll_38 rfl (lv_at hl 0 rfl) ?_
      refine x_get (pc := 39) (ci := 8) (T := TX8) (v := .int t_bestRound) C S 0 rfl rfl inlX8 19 (by decide) rfl qf_8_193 rfl dX8_cheapestOfAll_39 ?_
      refine lv_if_lt (tgt := 53) (pc := 42) hx hb dX8_cheapestOfAll_42 (by decide) (fun c5 => ?_) (fun c5 => ?_)
      · have hf := ifp c5 hf
        exact k_X8_cheapestOfAll_53 C (t_isKept) (t_work) (t_kind) (t_letters) (t_at) (t_fault) (o3_t_back) (o3_t_waits) (t_miles) (o3_t_loads) (t_bestRound) (o3_t_bestPlace) (o3_t_bestAdds) (t_regret) (t_z) (o3_t_s) (o3_t_comes) (o3_t_begins) (x1) (x3) (x5) k19 hk19 hf S (lv_sub hl [0, 1, 3, 5] rfl)
      · have hf := ifn c5 hf
        refine lv_aload_n (pc := 45) hx hb dX8_cheapestOfAll_45 rfl (lv_at hl 0 rfl) ?_
        refine x_get (pc := 46) (ci := 8) (T := TX8) (v := .int o3_t_bestAdds) C S 0 rfl rfl inlX8 21 (by decide) rfl qf_8_190 rfl dX8_cheapestOfAll_46 ?_
        refine lv_iload_n (pc := 49) hx hb dX8_cheapestOfAll_49 rfl (lv_at hl 3 rfl) ?_
        refine lv_icmp_ge (tgt := 75) (pc := 50) hx hb dX8_cheapestOfAll_50 (by decide) (fun c6 => ?_) (fun c6 => ?_)
        · have hf := ifp c6 hf
          refine lv_iload (pc := 75) hx hb dX8_cheapestOfAll_75 (lv_at hl 4 rfl) ?_
          refine lv_ldc (pc := 77) hx hb hown (hts _ qk_8_169) dX8_cheapestOfAll_77 ?_
          refine lv_icmp_eq (tgt := 91) (pc := 79) hx hb dX8_cheapestOfAll_79 (by decide) (fun c7 => ?_) (fun c7 => ?_)
          · have hf := ifp c7 hf
            refine lv_aload_n (pc := 91) hx hb dX8_cheapestOfAll_91 rfl (lv_at hl 0 rfl) ?_
            refine x_get (pc := 92) (ci := 8) (T := TX8) (v := .int o3_t_bestAdds) C S 0 rfl rfl inlX8 21 (by decide) rfl qf_8_190 rfl dX8_cheapestOfAll_92 ?_
            refine lv_istore (pc := 95) (lv' := [(4, .int o3_t_bestAdds), (0, .ref a_t), (1, .int x1), (2, .int x2), (3, .int x3), (5, .int x5)]) hx hb dX8_cheapestOfAll_95 hl (by decide) rfl (fun ls hl => ?_)
            refine lv_iinc (pc := 97) (v := (x5 + (1 : Int32))) (lv' := [(5, .int (x5 + (1 : Int32))), (4, .int o3_t_bestAdds), (0, .ref a_t), (1, .int x1), (2, .int x2), (3, .int x3)]) hx hb dX8_cheapestOfAll_97 hl (k := 5) rfl (congrArg (fun z => x5 + z) ic_1) (by decide) rfl (fun ls hl => ?_)
            refine lv_goto (tgt := 19) (pc := 100) hx hb dX8_cheapestOfAll_100 (by decide) ?_
            exact hk19 (x2) (x3) (o3_t_bestAdds) ((x5 + (1 : Int32))) (o3_t_s) (o3_t_comes) (o3_t_begins) (o3_t_back) (o3_t_waits) (o3_t_loads) (t_bestRound) (o3_t_bestPlace) (o3_t_bestAdds) hf S (lv_sub hl [2, 3, 4, 5, 1, 0] rfl)
          · have hf := ifn c7 hf
            refine lv_aload_n (pc := 82) hx hb dX8_cheapestOfAll_82 rfl (lv_at hl 0 rfl) ?_
            refine x_get (pc := 83) (ci := 8) (T := TX8) (v := .int o3_t_bestAdds) C S 0 rfl rfl inlX8 21 (by decide) rfl qf_8_190 rfl dX8_cheapestOfAll_83 ?_
            refine lv_iload (pc := 86) hx hb dX8_cheapestOfAll_86 (lv_at hl 4 rfl) ?_
            refine lv_icmp_ge (tgt := 97) (pc := 88) hx hb dX8_cheapestOfAll_88 (by decide) (fun c8 => ?_) (fun c8 => ?_)
            · have hf := ifp c8 hf
              refine lv_iinc (pc := 97) (v := (x5 + (1 : Int32))) (lv' := [(5, .int (x5 + (1 : Int32))), (0, .ref a_t), (1, .int x1), (2, .int x2), (3, .int x3), (4, .int x4)]) hx hb dX8_cheapestOfAll_97 hl (k := 5) rfl (congrArg (fun z => x5 + z) ic_1) (by decide) rfl (fun ls hl => ?_)
              refine lv_goto (tgt := 19) (pc := 100) hx hb dX8_cheapestOfAll_100 (by decide) ?_
              exact hk19 (x2) (x3) (x4) ((x5 + (1 : Int32))) (o3_t_s) (o3_t_comes) (o3_t_begins) (o3_t_back) (o3_t_waits) (o3_t_loads) (t_bestRound) (o3_t_bestPlace) (o3_t_bestAdds) hf S (lv_sub hl [1, 2, 3, 4, 5, 0] rfl)
            · have hf := ifn c8 hf
              refine lv_aload_n (pc := 91) hx hb dX8_cheapestOfAll_91 rfl (lv_at hl 0 rfl) ?_
              refine x_get (pc := 92) (ci := 8) (T := TX8) (v := .int o3_t_bestAdds) C S 0 rfl rfl inlX8 21 (by decide) rfl qf_8_190 rfl dX8_cheapestOfAll_92 ?_
              refine lv_istore (pc := 95) (lv' := [(4, .int o3_t_bestAdds), (0, .ref a_t), (1, .int x1), (2, .int x2), (3, .int x3), (5, .int x5)]) hx hb dX8_cheapestOfAll_95 hl (by decide) rfl (fun ls hl => ?_)
              refine lv_iinc (pc := 97) (v := (x5 + (1 : Int32))) (lv' := [(5, .int (x5 + (1 : Int32))), (4, .int o3_t_bestAdds), (0, .ref a_t), (1, .int x1), (2, .int x2), (3, .int x3)]) hx hb dX8_cheapestOfAll_97 hl (k := 5) rfl (congrArg (fun z => x5 + z) ic_1) (by decide) rfl (fun ls hl => ?_)
              refine lv_goto (tgt := 19) (pc := 100) hx hb dX8_cheapestOfAll_100 (by decide) ?_
              exact hk19 (x2) (x3) (o3_t_bestAdds) ((x5 + (1 : Int32))) (o3_t_s) (o3_t_comes) (o3_t_begins) (o3_t_back) (o3_t_waits) (o3_t_loads) (t_bestRound) (o3_t_bestPlace) (o3_t_bestAdds) hf S (lv_sub hl [2, 3, 4, 5, 1, 0] rfl)
        · have hf := ifn c6 hf
          exact k_X8_cheapestOfAll_53 C (t_isKept) (t_work) (t_kind) (t_letters) (t_at) (t_fault) (o3_t_back) (o3_t_waits) (t_miles) (o3_t_loads) (t_bestRound) (o3_t_bestPlace) (o3_t_bestAdds) (t_regret) (t_z) (o3_t_s) (o3_t_comes) (o3_t_begins) (x1) (x3) (x5) k19 hk19 hf S (lv_sub hl [0, 1, 3, 5] rfl)
    · have hf := ifp c4 hf
      refine lv_goto (tgt := 97) (pc := 35) hx hb dX8_cheapestOfAll_35 (by decide) ?_
      refine lv_iinc (pc := 97) (v := (x5 + (1 : Int32))) (lv' := [(5, .int (x5 + (1 : Int32))), (0, .ref a_t), (1, .int x1), (2, .int x2), (3, .int x3), (4, .int x4)]) hx hb dX8_cheapestOfAll_97 hl (k := 5) rfl (congrArg (fun z => x5 + z) ic_1) (by decide) rfl (fun ls hl => ?_)
      refine lv_goto (tgt := 19) (pc := 100) hx hb dX8_cheapestOfAll_100 (by decide) ?_
      exact hk19 (x2) (x3) (x4) ((x5 + (1 : Int32))) (o3_t_s) (o3_t_comes) (o3_t_begins) (o3_t_back) (o3_t_waits) (o3_t_loads) (t_bestRound) (o3_t_bestPlace) (o3_t_bestAdds) hf S (lv_sub hl [1, 2, 3, 4, 5, 0] rfl)
set_option maxRecDepth 100000 in
set_option maxHeartbeats 4000000 in
theorem h_X8_cheapestOfAll_19 (C : Cx p s m args meth c cX8_cheapestOfAll (some .boolean) 6 RX8 G A) (t_isKept : Int32) (t_work : Int32) (t_kind : Int32) (t_letters : Int32) (t_at : Int32) (t_fault : Int32) (t_miles : Int32) (t_regret : Int32) (t_z : Int32) (x1 : Int32) : ∀ (n : Nat) (x2 : Int32) (x3 : Int32) (x4 : Int32) (x5 : Int32) (t_s : Nat → Int32) (t_comes : Nat → Int32) (t_begins : Nat → Int32) (t_back : Int32) (t_waits : Int32) (t_loads : Int32) (t_bestRound : Int32) (t_bestPlace : Int32) (t_bestAdds : Int32) {H : Heap} {locs : List Loc} {ls : Array Slot} (hf : lp (fun k x => b_X8_cheapestOfAll_19 x1 k x.1 x.2.1 x.2.2.1 x.2.2.2.1 x.2.2.2.2.1 x.2.2.2.2.2.1 x.2.2.2.2.2.2.1 x.2.2.2.2.2.2.2.1 x.2.2.2.2.2.2.2.2.1 x.2.2.2.2.2.2.2.2.2.1 x.2.2.2.2.2.2.2.2.2.2) n (x2, x3, x4, x5, t_s, t_comes, t_begins, t_back, t_waits, t_loads, t_bestRound) = some (r, z_t_s, z_t_comes, z_t_begins, z_t_back, z_t_waits, z_t_loads, z_t_bestRound, z_t_bestPlace, z_t_bestAdds, z_t_regret)) (S : St G A s.heap H locs (w_X8_cheapestOfAll G a_t a_t_s a_t_image a_t_mind a_t_aside a_t_text a_t_read a_t_comes a_t_begins a_t_latest a_t_move a_t_sort a_t_items a_t_cell a_t_carried t_isKept t_work t_kind t_letters t_at t_fault t_back t_waits t_miles t_loads t_bestRound t_bestPlace t_bestAdds t_regret t_z t_s t_comes t_begins)) (hl : lv_has ls 6 [(0, .ref a_t), (1, .int x1), (2, .int x2), (3, .int x3), (4, .int x4), (5, .int x5)]), W p l e rm_X8_cheapestOfAll s m args below meth c H locs 0 0 (QI G below args s A r (w_X8_cheapestOfAll G a_t a_t_s a_t_image a_t_mind a_t_aside a_t_text a_t_read a_t_comes a_t_begins a_t_latest a_t_move a_t_sort a_t_items a_t_cell a_t_carried t_isKept t_work t_kind t_letters t_at t_fault z_t_back z_t_waits t_miles z_t_loads z_t_bestRound z_t_bestPlace z_t_bestAdds z_t_regret t_z z_t_s z_t_comes z_t_begins)) (F0 m 19 ls []) := by
  intro n
  induction n with
  | zero =>
    intro x2 x3 x4 x5 t_s t_comes t_begins t_back t_waits t_loads t_bestRound t_bestPlace t_bestAdds H locs ls hf
    cases hf
  | succ n ih =>
    intro x2 x3 x4 x5 t_s t_comes t_begins t_back t_waits t_loads t_bestRound t_bestPlace t_bestAdds H locs ls hf S hl
    have hf : b_X8_cheapestOfAll_19 x1 (lp (fun k x => b_X8_cheapestOfAll_19 x1 k x.1 x.2.1 x.2.2.1 x.2.2.2.1 x.2.2.2.2.1 x.2.2.2.2.2.1 x.2.2.2.2.2.2.1 x.2.2.2.2.2.2.2.1 x.2.2.2.2.2.2.2.2.1 x.2.2.2.2.2.2.2.2.2.1 x.2.2.2.2.2.2.2.2.2.2) n) x2 x3 x4 x5 t_s t_comes t_begins t_back t_waits t_loads t_bestRound = some (r, z_t_s, z_t_comes, z_t_begins, z_t_back, z_t_waits, z_t_loads, z_t_bestRound, z_t_bestPlace, z_t_bestAdds, z_t_regret) := hf
    exact k_X8_cheapestOfAll_19 C t_isKept t_work t_kind t_letters t_at t_fault t_back t_waits t_miles t_loads t_bestRound t_bestPlace t_bestAdds t_regret t_z t_s t_comes t_begins x1 x2 x3 x4 x5  (lp (fun k x => b_X8_cheapestOfAll_19 x1 k x.1 x.2.1 x.2.2.1 x.2.2.2.1 x.2.2.2.2.1 x.2.2.2.2.2.1 x.2.2.2.2.2.2.1 x.2.2.2.2.2.2.2.1 x.2.2.2.2.2.2.2.2.1 x.2.2.2.2.2.2.2.2.2.1 x.2.2.2.2.2.2.2.2.2.2) n) (fun x2' x3' x4' x5' t_s' t_comes' t_begins' t_back' t_waits' t_loads' t_bestRound' t_bestPlace' t_bestAdds' h S hl => ih x2' x3' x4' x5' t_s' t_comes' t_begins' t_back' t_waits' t_loads' t_bestRound' t_bestPlace' t_bestAdds' h S hl) hf S hl
set_option maxRecDepth 100000 in
set_option maxHeartbeats 4000000 in
theorem c_X8_cheapestOfAll (l : Launch) (G : GE) (a_t a_t_s a_t_image a_t_mind a_t_aside a_t_text a_t_read a_t_comes a_t_begins a_t_latest a_t_move a_t_sort a_t_items a_t_cell a_t_carried : Nat) (t_isKept : Int32) (t_work : Int32) (t_kind : Int32) (t_letters : Int32) (t_at : Int32) (t_fault : Int32) (t_back : Int32) (t_waits : Int32) (t_miles : Int32) (t_loads : Int32) (t_bestRound : Int32) (t_bestPlace : Int32) (t_bestAdds : Int32) (t_regret : Int32) (t_z : Int32) (t_s : Nat → Int32) (t_comes : Nat → Int32) (t_begins : Nat → Int32) (x1 : Int32) (r : Int32) (z_t_s : Nat → Int32) (z_t_comes : Nat → Int32) (z_t_begins : Nat → Int32) (z_t_back : Int32) (z_t_waits : Int32) (z_t_loads : Int32) (z_t_bestRound : Int32) (z_t_bestPlace : Int32) (z_t_bestAdds : Int32) (z_t_regret : Int32) (hf : f_X8_cheapestOfAll t_s t_comes t_begins t_back t_waits t_loads x1 = some (r, z_t_s, z_t_comes, z_t_begins, z_t_back, z_t_waits, z_t_loads, z_t_bestRound, z_t_bestPlace, z_t_bestAdds, z_t_regret)) : CI l G yX8_cheapestOfAll kw_X8_cheapestOfAll rm_X8_cheapestOfAll [.ref a_t, .int x1] (w_X8_cheapestOfAll G a_t a_t_s a_t_image a_t_mind a_t_aside a_t_text a_t_read a_t_comes a_t_begins a_t_latest a_t_move a_t_sort a_t_items a_t_cell a_t_carried t_isKept t_work t_kind t_letters t_at t_fault t_back t_waits t_miles t_loads t_bestRound t_bestPlace t_bestAdds t_regret t_z t_s t_comes t_begins) r (w_X8_cheapestOfAll G a_t a_t_s a_t_image a_t_mind a_t_aside a_t_text a_t_read a_t_comes a_t_begins a_t_latest a_t_move a_t_sort a_t_items a_t_cell a_t_carried t_isKept t_work t_kind t_letters t_at t_fault z_t_back z_t_waits t_miles z_t_loads z_t_bestRound z_t_bestPlace z_t_bestAdds z_t_regret t_z z_t_s z_t_comes z_t_begins) := by
  refine en_I (cc := cX8_cheapestOfAll) (maxL := 6) (ret := (some .boolean)) (by decide +kernel) (Nat.le_of_ble_eq_true rfl) ?_
  intro p e s m args below meth c A ls C S hl
  have hl : lv_has ls 6 [(0, .ref a_t), (1, .int x1)] := hl
  have C : Cx p s m args meth c cX8_cheapestOfAll (some .boolean) 6 RX8 G A := C
  unfold f_X8_cheapestOfAll at hf
  have hx := C.1
  have hb := C.2.1
  have hown := C.2.2.2.2.1
  have hts := C.2.2.2.2.2.1
  have hN := C.2.2.2.2.2.2.2.2.2.2
  refine lv_aload_n (pc := 0) hx hb dX8_cheapestOfAll_0 rfl (lv_at hl 0 rfl) ?_
  refine lv_bipush (pc := 1) hx hb dX8_cheapestOfAll_1 bc_m5 ?_
  refine x_put (pc := 3) (ci := 8) (T := TX8) (ws' := (w_X8_cheapestOfAll G a_t a_t_s a_t_image a_t_mind a_t_aside a_t_text a_t_read a_t_comes a_t_begins a_t_latest a_t_move a_t_sort a_t_items a_t_cell a_t_carried t_isKept t_work t_kind t_letters t_at t_fault t_back t_waits t_miles t_loads (-5 : Int32) t_bestPlace t_bestAdds t_regret t_z t_s t_comes t_begins)) C S tyX8 tyX8_ok nmX8 0 rfl rfl inlX8 19 (by decide) rfl qf_8_193 rfl rfl rfl rfl (Nat.le_of_ble_eq_true rfl) rfl dX8_cheapestOfAll_3 (fun H locs S => ?_)
  refine lv_bipush (pc := 6) hx hb dX8_cheapestOfAll_6 bc_m5 ?_
  refine lv_istore_n (pc := 8) (lv' := [(2, .int (-5 : Int32)), (0, .ref a_t), (1, .int x1)]) hx hb dX8_cheapestOfAll_8 rfl hl (by decide) rfl (fun ls hl => ?_)
  refine lv_ldc (pc := 9) hx hb hown (hts _ qk_8_169) dX8_cheapestOfAll_9 ?_
  refine lv_istore_n (pc := 11) (lv' := [(3, .int (-100000 : Int32)), (2, .int (-5 : Int32)), (0, .ref a_t), (1, .int x1)]) hx hb dX8_cheapestOfAll_11 rfl hl (by decide) rfl (fun ls hl => ?_)
  refine lv_ldc (pc := 12) hx hb hown (hts _ qk_8_169) dX8_cheapestOfAll_12 ?_
  refine lv_istore (pc := 14) (lv' := [(4, .int (-100000 : Int32)), (3, .int (-100000 : Int32)), (2, .int (-5 : Int32)), (0, .ref a_t), (1, .int x1)]) hx hb dX8_cheapestOfAll_14 hl (by decide) rfl (fun ls hl => ?_)
  refine lv_iconst (pc := 16) hx hb dX8_cheapestOfAll_16 ic_0 ?_
  refine lv_istore (pc := 17) (lv' := [(5, .int (0 : Int32)), (4, .int (-100000 : Int32)), (3, .int (-100000 : Int32)), (2, .int (-5 : Int32)), (0, .ref a_t), (1, .int x1)]) hx hb dX8_cheapestOfAll_17 hl (by decide) rfl (fun ls hl => ?_)
  exact h_X8_cheapestOfAll_19 C (t_isKept) (t_work) (t_kind) (t_letters) (t_at) (t_fault) (t_miles) (t_regret) (t_z) (x1) fu ((-5 : Int32)) ((-100000 : Int32)) ((-100000 : Int32)) ((0 : Int32)) (t_s) (t_comes) (t_begins) (t_back) (t_waits) (t_loads) ((-5 : Int32)) (t_bestPlace) (t_bestAdds) hf S (lv_sub hl [4, 5, 3, 2, 1, 0] rfl)
end

abbrev rm_X8_fills : Room := { frames := 8, cells := 0, slots := 0, locals := 194 }
abbrev kw_X8_fills : Cond := .code yX8_fills cX8_fills 8 (some .int)
abbrev w_X8_fills (G : GE) (a_t a_t_s a_t_image a_t_mind a_t_aside a_t_text a_t_read a_t_comes a_t_begins a_t_latest a_t_move a_t_sort a_t_items a_t_cell a_t_carried : Nat) (t_isKept : Int32) (t_work : Int32) (t_kind : Int32) (t_letters : Int32) (t_at : Int32) (t_fault : Int32) (t_back : Int32) (t_waits : Int32) (t_miles : Int32) (t_loads : Int32) (t_bestRound : Int32) (t_bestPlace : Int32) (t_bestAdds : Int32) (t_regret : Int32) (t_z : Int32) (t_s : Nat → Int32) (t_comes : Nat → Int32) (t_begins : Nat → Int32) : va_W := [(a_t, ob 8 [.ref a_t_s, .ref a_t_image, .ref a_t_mind, .ref a_t_aside, .int t_isKept, .int t_work, .int t_kind, .ref a_t_text, .ref a_t_read, .int t_letters, .int t_at, .int t_fault, .ref a_t_comes, .ref a_t_begins, .ref a_t_latest, .int t_back, .int t_waits, .int t_miles, .int t_loads, .int t_bestRound, .int t_bestPlace, .int t_bestAdds, .int t_regret, .ref a_t_move, .ref a_t_sort, .ref a_t_items, .ref a_t_cell, .ref a_t_carried, .int t_z]), (a_t_s, aI G 258 t_s), (a_t_comes, aI G 16 t_comes), (a_t_begins, aI G 16 t_begins)]
theorem u_X8_fills_X8_inserts_165 {s : State} {args : Array Value} (hts : ∀ w ∈ WU, w.before args s = true) : CallW rm_X8_fills s args RX8 RX8 165 yX8_inserts cX8_inserts 6 none (kw_X8_inserts :: WU) rm_X8_inserts 0 0 3 := cwV 3 hts (gV qm_8_165 qi_X8_inserts ql_X8_inserts qn_8 qc_X8_inserts) rfl rfl rfl (by decide +kernel) ⟨Nat.le_of_ble_eq_true rfl, Nat.le_of_ble_eq_true rfl⟩
theorem u_X8_fills_X8_roundOf_157 {s : State} {args : Array Value} (hts : ∀ w ∈ WU, w.before args s = true) : CallW rm_X8_fills s args RX8 RX8 157 yX8_roundOf cX8_roundOf 3 (some .int) (kw_X8_roundOf :: WU) rm_X8_roundOf 0 0 1 := cwV 1 hts (gV qm_8_157 qi_X8_roundOf ql_X8_roundOf qn_8 qc_X8_roundOf) rfl rfl rfl (by decide +kernel) ⟨Nat.le_of_ble_eq_true rfl, Nat.le_of_ble_eq_true rfl⟩
theorem u_X8_fills_X8_cheapestOfAll_202 {s : State} {args : Array Value} (hts : ∀ w ∈ WU, w.before args s = true) : CallW rm_X8_fills s args RX8 RX8 202 yX8_cheapestOfAll cX8_cheapestOfAll 6 (some .boolean) (kw_X8_cheapestOfAll :: WU) rm_X8_cheapestOfAll 0 0 1 := cwV 1 hts (gV qm_8_202 qi_X8_cheapestOfAll ql_X8_cheapestOfAll qn_8 qc_X8_cheapestOfAll) rfl rfl rfl (by decide +kernel) ⟨Nat.le_of_ble_eq_true rfl, Nat.le_of_ble_eq_true rfl⟩
section
variable {p : Program} {l : Launch} {e : Env} {s : State} {m : MethodId} {args : Array Value} {below : List Frame} {meth : Method} {c : Code} {A : Nat → Prop} {G : GE} {a_t a_t_s a_t_image a_t_mind a_t_aside a_t_text a_t_read a_t_comes a_t_begins a_t_latest a_t_move a_t_sort a_t_items a_t_cell a_t_carried : Nat} {r : Int32} {z_t_s : Nat → Int32} {z_t_comes : Nat → Int32} {z_t_begins : Nat → Int32} {z_t_back : Int32} {z_t_waits : Int32} {z_t_loads : Int32} {z_t_bestRound : Int32} {z_t_bestPlace : Int32} {z_t_bestAdds : Int32} {z_t_regret : Int32}
set_option maxRecDepth 100000 in
set_option maxHeartbeats 4000000 in
theorem k_X8_fills_83 (C : Cx p s m args meth c cX8_fills (some .int) 8 RX8 G A) (t_isKept : Int32) (t_work : Int32) (t_kind : Int32) (t_letters : Int32) (t_at : Int32) (t_fault : Int32) (t_back : Int32) (t_waits : Int32) (t_miles : Int32) (t_loads : Int32) (t_bestRound : Int32) (t_bestPlace : Int32) (t_bestAdds : Int32) (t_regret : Int32) (t_z : Int32) (t_s : Nat → Int32) (t_comes : Nat → Int32) (t_begins : Nat → Int32) (x1 : Int32) (x7 : Int32) (k2 : Int32 × (Nat → Int32) × (Nat → Int32) × (Nat → Int32) × Int32 × Int32 × Int32 × Int32 × Int32 × Int32 × Int32 → Option (Int32 × (Nat → Int32) × (Nat → Int32) × (Nat → Int32) × Int32 × Int32 × Int32 × Int32 × Int32 × Int32 × Int32)) (hk2 : ∀ {H : Heap} {locs : List Loc} {ls : Array Slot} (x1' : Int32) (t_s' : Nat → Int32) (t_comes' : Nat → Int32) (t_begins' : Nat → Int32) (t_back' : Int32) (t_waits' : Int32) (t_loads' : Int32) (t_bestRound' : Int32) (t_bestPlace' : Int32) (t_bestAdds' : Int32) (t_regret' : Int32), k2 (x1', t_s', t_comes', t_begins', t_back', t_waits', t_loads', t_bestRound', t_bestPlace', t_bestAdds', t_regret') = some (r, z_t_s, z_t_comes, z_t_begins, z_t_back, z_t_waits, z_t_loads, z_t_bestRound, z_t_bestPlace, z_t_bestAdds, z_t_regret) → St G A s.heap H locs (w_X8_fills G a_t a_t_s a_t_image a_t_mind a_t_aside a_t_text a_t_read a_t_comes a_t_begins a_t_latest a_t_move a_t_sort a_t_items a_t_cell a_t_carried t_isKept t_work t_kind t_letters t_at t_fault t_back' t_waits' t_miles t_loads' t_bestRound' t_bestPlace' t_bestAdds' t_regret' t_z t_s' t_comes' t_begins') → lv_has ls 8 [(0, .ref a_t), (1, .int x1')] → W p l e rm_X8_fills s m args below meth c H locs 0 0 (QI G below args s A r (w_X8_fills G a_t a_t_s a_t_image a_t_mind a_t_aside a_t_text a_t_read a_t_comes a_t_begins a_t_latest a_t_move a_t_sort a_t_items a_t_cell a_t_carried t_isKept t_work t_kind t_letters t_at t_fault z_t_back z_t_waits t_miles z_t_loads z_t_bestRound z_t_bestPlace z_t_bestAdds z_t_regret t_z z_t_s z_t_comes z_t_begins)) (F0 m 2 ls [])) (k19 : Int32 × Int32 × Int32 × Int32 × Int32 × Int32 × (Nat → Int32) × (Nat → Int32) × (Nat → Int32) × Int32 × Int32 × Int32 × Int32 × Int32 × Int32 × Int32 → Option (Int32 × (Nat → Int32) × (Nat → Int32) × (Nat → Int32) × Int32 × Int32 × Int32 × Int32 × Int32 × Int32 × Int32)) (hk19 : ∀ {H : Heap} {locs : List Loc} {ls : Array Slot} (x2' : Int32) (x3' : Int32) (x4' : Int32) (x5' : Int32) (x6' : Int32) (x7' : Int32) (t_s' : Nat → Int32) (t_comes' : Nat → Int32) (t_begins' : Nat → Int32) (t_back' : Int32) (t_waits' : Int32) (t_loads' : Int32) (t_bestRound' : Int32) (t_bestPlace' : Int32) (t_bestAdds' : Int32) (t_regret' : Int32), k19 (x2', x3', x4', x5', x6', x7', t_s', t_comes', t_begins', t_back', t_waits', t_loads', t_bestRound', t_bestPlace', t_bestAdds', t_regret') = some (r, z_t_s, z_t_comes, z_t_begins, z_t_back, z_t_waits, z_t_loads, z_t_bestRound, z_t_bestPlace, z_t_bestAdds, z_t_regret) → St G A s.heap H locs (w_X8_fills G a_t a_t_s a_t_image a_t_mind a_t_aside a_t_text a_t_read a_t_comes a_t_begins a_t_latest a_t_move a_t_sort a_t_items a_t_cell a_t_carried t_isKept t_work t_kind t_letters t_at t_fault t_back' t_waits' t_miles t_loads' t_bestRound' t_bestPlace' t_bestAdds' t_regret' t_z t_s' t_comes' t_begins') → lv_has ls 8 [(0, .ref a_t), (1, .int x1), (2, .int x2'), (3, .int x3'), (4, .int x4'), (5, .int x5'), (6, .int x6'), (7, .int x7')] → W p l e rm_X8_fills s m args below meth c H locs 0 0 (QI G below args s A r (w_X8_fills G a_t a_t_s a_t_image a_t_mind a_t_aside a_t_text a_t_read a_t_comes a_t_begins a_t_latest a_t_move a_t_sort a_t_items a_t_cell a_t_carried t_isKept t_work t_kind t_letters t_at t_fault z_t_back z_t_waits t_miles z_t_loads z_t_bestRound z_t_bestPlace z_t_bestAdds z_t_regret t_z z_t_s z_t_comes z_t_begins)) (F0 m 19 ls [])) {H : Heap} {locs : List Loc} {ls : Array Slot} (hf : b_X8_fills_83 k2 k19 x1 x7 t_s t_comes t_begins t_back t_waits t_loads t_bestRound t_bestPlace t_bestAdds t_regret = some (r, z_t_s, z_t_comes, z_t_begins, z_t_back, z_t_waits, z_t_loads, z_t_bestRound, z_t_bestPlace, z_t_bestAdds, z_t_regret)) (S : St G A s.heap H locs (w_X8_fills G a_t a_t_s a_t_image a_t_mind a_t_aside a_t_text a_t_read a_t_comes a_t_begins a_t_latest a_t_move a_t_sort a_t_items a_t_cell a_t_carried t_isKept t_work t_kind t_letters t_at t_fault t_back t_waits t_miles t_loads t_bestRound t_bestPlace t_bestAdds t_regret t_z t_s t_comes t_begins)) (hl : lv_has ls 8 [(0, .ref a_t), (1, .int x1), (7, .int x7)]) : W p l e rm_X8_fills s m args below meth c H locs 0 0 (QI G below args s A r (w_X8_fills G a_t a_t_s a_t_image a_t_mind a_t_aside a_t_text a_t_read a_t_comes a_t_begins a_t_latest a_t_move a_t_sort a_t_items a_t_cell a_t_carried t_isKept t_work t_kind t_letters t_at t_fault z_t_back z_t_waits t_miles z_t_loads z_t_bestRound z_t_bestPlace z_t_bestAdds z_t_regret t_z z_t_s z_t_comes z_t_begins)) (F0 m 83 ls []) := by
  unfold b_X8_fills_83 at hf
  have hx := C.1
  have hb := C.2.1
  have hown := C.2.2.2.2.1
  have hts := C.2.2.2.2.2.1
  have hN := C.2.2.2.2.2.2.2.2.2.2
  refine lv_iload (pc := 83) hx hb dX8_fills_83 (lv_at hl 2 rfl) ?_
  refine lv_istore_n (pc := 85) (lv' := [(2, .int x7), (0, .ref a_t), (1, .int x1), (7, .int x7)]) hx hb dX8_fills_85 rfl hl (by decide) rfl (fun ls hl => ?_)
  refine lv_aload_n (pc := 86) hx hb dX8_fills_86 rfl (lv_at hl 1 rfl) ?_
  refine x_get (pc := 87) (ci := 8) (T := TX8) (v := .int t_regret) C S 0 rfl rfl inlX8 22 (by decide) rfl qf_8_199 rfl dX8_fills_87 ?_
  refine lv_istore_n (pc := 90) (lv' := [(3, .int t_regret), (2, .int x7), (0, .ref a_t), (1, .int x1), (7, .int x7)]) hx hb dX8_fills_90 rfl hl (by decide) rfl (fun ls hl => ?_)
  refine lv_aload_n (pc := 91) hx hb dX8_fills_91 rfl (lv_at hl 2 rfl) ?_
  refine x_get (pc := 92) (ci := 8) (T := TX8) (v := .int t_bestAdds) C S 0 rfl rfl inlX8 21 (by decide) rfl qf_8_190 rfl dX8_fills_92 ?_
  refine lv_istore (pc := 95) (lv' := [(4, .int t_bestAdds), (3, .int t_regret), (2, .int x7), (0, .ref a_t), (1, .int x1), (7, .int x7)]) hx hb dX8_fills_95 hl (by decide) rfl (fun ls hl => ?_)
  refine lv_aload_n (pc := 97) hx hb dX8_fills_97 rfl (lv_at hl 3 rfl) ?_
  refine x_get (pc := 98) (ci := 8) (T := TX8) (v := .int t_bestRound) C S 0 rfl rfl inlX8 19 (by decide) rfl qf_8_193 rfl dX8_fills_98 ?_
  refine lv_istore (pc := 101) (lv' := [(5, .int t_bestRound), (4, .int t_bestAdds), (3, .int t_regret), (2, .int x7), (0, .ref a_t), (1, .int x1), (7, .int x7)]) hx hb dX8_fills_101 hl (by decide) rfl (fun ls hl => ?_)
  refine lv_aload_n (pc := 103) hx hb dX8_fills_103 rfl (lv_at hl 4 rfl) ?_
  refine x_get (pc := 104) (ci := 8) (T := TX8) (v := .int t_bestPlace) C S 0 rfl rfl inlX8 20 (by decide) rfl qf_8_187 rfl dX8_fills_104 ?_
  refine lv_istore (pc := 107) (lv' := [(6, .int t_bestPlace), (5, .int t_bestRound), (4, .int t_bestAdds), (3, .int t_regret), (2, .int x7), (0, .ref a_t), (1, .int x1), (7, .int x7)]) hx hb dX8_fills_107 hl (by decide) rfl (fun ls hl => ?_)
  refine lv_iinc (pc := 109) (v := (x7 + (1 : Int32))) (lv' := [(7, .int (x7 + (1 : Int32))), (6, .int t_bestPlace), (5, .int t_bestRound), (4, .int t_bestAdds), (3, .int t_regret), (2, .int x7), (0, .ref a_t), (1, .int x1)]) hx hb dX8_fills_109 hl (k := 7) rfl (congrArg (fun z => x7 + z) ic_1) (by decide) rfl (fun ls hl => ?_)
  refine lv_goto (tgt := 19) (pc := 112) hx hb dX8_fills_112 (by decide) ?_
  exact hk19 (x7) (t_regret) (t_bestAdds) (t_bestRound) (t_bestPlace) ((x7 + (1 : Int32))) (t_s) (t_comes) (t_begins) (t_back) (t_waits) (t_loads) (t_bestRound) (t_bestPlace) (t_bestAdds) (t_regret)  hf S (lv_sub hl [6, 7, 5, 4, 3, 2, 1, 0] rfl)
set_option maxRecDepth 100000 in
set_option maxHeartbeats 4000000 in
theorem k_X8_fills_19 (C : Cx p s m args meth c cX8_fills (some .int) 8 RX8 G A) (t_isKept : Int32) (t_work : Int32) (t_kind : Int32) (t_letters : Int32) (t_at : Int32) (t_fault : Int32) (t_back : Int32) (t_waits : Int32) (t_miles : Int32) (t_loads : Int32) (t_bestRound : Int32) (t_bestPlace : Int32) (t_bestAdds : Int32) (t_regret : Int32) (t_z : Int32) (t_s : Nat → Int32) (t_comes : Nat → Int32) (t_begins : Nat → Int32) (x1 : Int32) (x2 : Int32) (x3 : Int32) (x4 : Int32) (x5 : Int32) (x6 : Int32) (x7 : Int32) (k2 : Int32 × (Nat → Int32) × (Nat → Int32) × (Nat → Int32) × Int32 × Int32 × Int32 × Int32 × Int32 × Int32 × Int32 → Option (Int32 × (Nat → Int32) × (Nat → Int32) × (Nat → Int32) × Int32 × Int32 × Int32 × Int32 × Int32 × Int32 × Int32)) (hk2 : ∀ {H : Heap} {locs : List Loc} {ls : Array Slot} (x1' : Int32) (t_s' : Nat → Int32) (t_comes' : Nat → Int32) (t_begins' : Nat → Int32) (t_back' : Int32) (t_waits' : Int32) (t_loads' : Int32) (t_bestRound' : Int32) (t_bestPlace' : Int32) (t_bestAdds' : Int32) (t_regret' : Int32), k2 (x1', t_s', t_comes', t_begins', t_back', t_waits', t_loads', t_bestRound', t_bestPlace', t_bestAdds', t_regret') = some (r, z_t_s, z_t_comes, z_t_begins, z_t_back, z_t_waits, z_t_loads, z_t_bestRound, z_t_bestPlace, z_t_bestAdds, z_t_regret) → St G A s.heap H locs (w_X8_fills G a_t a_t_s a_t_image a_t_mind a_t_aside a_t_text a_t_read a_t_comes a_t_begins a_t_latest a_t_move a_t_sort a_t_items a_t_cell a_t_carried t_isKept t_work t_kind t_letters t_at t_fault t_back' t_waits' t_miles t_loads' t_bestRound' t_bestPlace' t_bestAdds' t_regret' t_z t_s' t_comes' t_begins') → lv_has ls 8 [(0, .ref a_t), (1, .int x1')] → W p l e rm_X8_fills s m args below meth c H locs 0 0 (QI G below args s A r (w_X8_fills G a_t a_t_s a_t_image a_t_mind a_t_aside a_t_text a_t_read a_t_comes a_t_begins a_t_latest a_t_move a_t_sort a_t_items a_t_cell a_t_carried t_isKept t_work t_kind t_letters t_at t_fault z_t_back z_t_waits t_miles z_t_loads z_t_bestRound z_t_bestPlace z_t_bestAdds z_t_regret t_z z_t_s z_t_comes z_t_begins)) (F0 m 2 ls [])) (k19 : Int32 × Int32 × Int32 × Int32 × Int32 × Int32 × (Nat → Int32) × (Nat → Int32) × (Nat → Int32) × Int32 × Int32 × Int32 × Int32 × Int32 × Int32 × Int32 → Option (Int32 × (Nat → Int32) × (Nat → Int32) × (Nat → Int32) × Int32 × Int32 × Int32 × Int32 × Int32 × Int32 × Int32)) (hk19 : ∀ {H : Heap} {locs : List Loc} {ls : Array Slot} (x2' : Int32) (x3' : Int32) (x4' : Int32) (x5' : Int32) (x6' : Int32) (x7' : Int32) (t_s' : Nat → Int32) (t_comes' : Nat → Int32) (t_begins' : Nat → Int32) (t_back' : Int32) (t_waits' : Int32) (t_loads' : Int32) (t_bestRound' : Int32) (t_bestPlace' : Int32) (t_bestAdds' : Int32) (t_regret' : Int32), k19 (x2', x3', x4', x5', x6', x7', t_s', t_comes', t_begins', t_back', t_waits', t_loads', t_bestRound', t_bestPlace', t_bestAdds', t_regret') = some (r, z_t_s, z_t_comes, z_t_begins, z_t_back, z_t_waits, z_t_loads, z_t_bestRound, z_t_bestPlace, z_t_bestAdds, z_t_regret) → St G A s.heap H locs (w_X8_fills G a_t a_t_s a_t_image a_t_mind a_t_aside a_t_text a_t_read a_t_comes a_t_begins a_t_latest a_t_move a_t_sort a_t_items a_t_cell a_t_carried t_isKept t_work t_kind t_letters t_at t_fault t_back' t_waits' t_miles t_loads' t_bestRound' t_bestPlace' t_bestAdds' t_regret' t_z t_s' t_comes' t_begins') → lv_has ls 8 [(0, .ref a_t), (1, .int x1), (2, .int x2'), (3, .int x3'), (4, .int x4'), (5, .int x5'), (6, .int x6'), (7, .int x7')] → W p l e rm_X8_fills s m args below meth c H locs 0 0 (QI G below args s A r (w_X8_fills G a_t a_t_s a_t_image a_t_mind a_t_aside a_t_text a_t_read a_t_comes a_t_begins a_t_latest a_t_move a_t_sort a_t_items a_t_cell a_t_carried t_isKept t_work t_kind t_letters t_at t_fault z_t_back z_t_waits t_miles z_t_loads z_t_bestRound z_t_bestPlace z_t_bestAdds z_t_regret t_z z_t_s z_t_comes z_t_begins)) (F0 m 19 ls [])) {H : Heap} {locs : List Loc} {ls : Array Slot} (hf : b_X8_fills_19 k2 x1 k19 x2 x3 x4 x5 x6 x7 t_s t_comes t_begins t_back t_waits t_loads t_bestRound t_bestPlace t_bestAdds t_regret = some (r, z_t_s, z_t_comes, z_t_begins, z_t_back, z_t_waits, z_t_loads, z_t_bestRound, z_t_bestPlace, z_t_bestAdds, z_t_regret)) (S : St G A s.heap H locs (w_X8_fills G a_t a_t_s a_t_image a_t_mind a_t_aside a_t_text a_t_read a_t_comes a_t_begins a_t_latest a_t_move a_t_sort a_t_items a_t_cell a_t_carried t_isKept t_work t_kind t_letters t_at t_fault t_back t_waits t_miles t_loads t_bestRound t_bestPlace t_bestAdds t_regret t_z t_s t_comes t_begins)) (hl : lv_has ls 8 [(0, .ref a_t), (1, .int x1), (2, .int x2), (3, .int x3), (4, .int x4), (5, .int x5), (6, .int x6), (7, .int x7)]) : W p l e rm_X8_fills s m args below meth c H locs 0 0 (QI G below args s A r (w_X8_fills G a_t a_t_s a_t_image a_t_mind a_t_aside a_t_text a_t_read a_t_comes a_t_begins a_t_latest a_t_move a_t_sort a_t_items a_t_cell a_t_carried t_isKept t_work t_kind t_letters t_at t_fault z_t_back z_t_waits t_miles z_t_loads z_t_bestRound z_t_bestPlace z_t_bestAdds z_t_regret t_z z_t_s z_t_comes z_t_begins)) (F0 m 19 ls []) := by
  unfold b_X8_fills_19 at hf
  have hx := C.1
  have hb := C.2.1
  have hown := C.2.2.2.2.1
  have hts := C.2.2.2.2.2.1
  have hN := C.2.2.2.2.2.2.2.2.2.2
  refine lv_iload (pc := 19) hx hb dX8_fills_19 (lv_at hl 7 rfl) ?_
  refine lv_aload_n (pc := 21) hx hb dX8_fills_21 rfl (lv_at hl 0 rfl) ?_
  refine x_get (pc := 22) (ci := 8) (T := TX8) (v := .ref a_t_s) C S 0 rfl rfl inlX8 0 (by decide) rfl qf_8_11 rfl dX8_fills_22 ?_
  refine lv_iconst (pc := 25) hx hb dX8_fills_25 ic_4 ?_
  refine x_iald (pc := 26) C S 1 rfl (vp_in_iff.mpr (by decide)) dX8_fills_26 ?_
  refine lv_icmp_ge (tgt := 115) (pc := 27) hx hb dX8_fills_27 (by decide) (fun c1 => ?_) (fun c1 => ?_)
  · have hf := ifp c1 hf
    refine lv_iload_n (pc := 115) hx hb dX8_fills_115 rfl (lv_at hl 2 rfl) ?_
    refine lv_if_ge (tgt := 121) (pc := 116) hx hb dX8_fills_116 (by decide) (fun c2 => ?_) (fun c2 => ?_)
    · have hf := ifp c2 hf
      refine lv_aload_n (pc := 121) hx hb dX8_fills_121 rfl (lv_at hl 0 rfl) ?_
      refine lv_iload (pc := 122) hx hb dX8_fills_122 (lv_at hl 5 rfl) ?_
      refine lv_iload (pc := 124) hx hb dX8_fills_124 (lv_at hl 6 rfl) ?_
      refine lv_iload_n (pc := 126) hx hb dX8_fills_126 rfl (lv_at hl 2 rfl) ?_
      obtain ⟨o3_t_s, hq3, hf⟩ := bd_e hf
      refine x_vV (pc := 127) (As := [.int x5, .int x6, .int x2]) (rest := []) (isC := [0, 1]) (ws' := (w_X8_fills G a_t a_t_s a_t_image a_t_mind a_t_aside a_t_text a_t_read a_t_comes a_t_begins a_t_latest a_t_move a_t_sort a_t_items a_t_cell a_t_carried t_isKept t_work t_kind t_letters t_at t_fault t_back t_waits t_miles t_loads t_bestRound t_bestPlace t_bestAdds t_regret t_z o3_t_s t_comes t_begins)) C S (c_X8_inserts l G a_t a_t_s a_t_image a_t_mind a_t_aside a_t_text a_t_read a_t_comes a_t_begins a_t_latest a_t_move a_t_sort a_t_items a_t_cell a_t_carried t_isKept t_work t_kind t_letters t_at t_fault t_back t_waits t_miles t_loads t_bestRound t_bestPlace t_bestAdds t_regret t_z t_s x5 x6 x2 o3_t_s hq3) (u_X8_fills_X8_inserts_165 hts) (ci := 8) rfl 0 rfl rfl (by decide +kernel) [some 0, some 1, none, none] (by decide +kernel) rfl rfl rfl hl.1 rfl (Nat.le_of_ble_eq_true rfl) dX8_fills_127 (fun H locs S => ?_)
      refine lv_iinc (pc := 130) (v := (x1 + (1 : Int32))) (lv' := [(1, .int (x1 + (1 : Int32))), (0, .ref a_t), (2, .int x2), (3, .int x3), (4, .int x4), (5, .int x5), (6, .int x6), (7, .int x7)]) hx hb dX8_fills_130 hl (k := 1) rfl (congrArg (fun z => x1 + z) ic_1) (by decide) rfl (fun ls hl => ?_)
      refine lv_goto (tgt := 2) (pc := 133) hx hb dX8_fills_133 (by decide) ?_
      exact hk2 ((x1 + (1 : Int32))) (o3_t_s) (t_comes) (t_begins) (t_back) (t_waits) (t_loads) (t_bestRound) (t_bestPlace) (t_bestAdds) (t_regret)  hf S (lv_sub hl [1, 0] rfl)
    · have hf := ifn c2 hf
      refine lv_iload_n (pc := 119) hx hb dX8_fills_119 rfl (lv_at hl 1 rfl) ?_
      cases hf
      exact x_iret (pc := 120) C S dX8_fills_120
  · have hf := ifn c1 hf
    refine lv_aload_n (pc := 30) hx hb dX8_fills_30 rfl (lv_at hl 0 rfl) ?_
    refine lv_iload (pc := 31) hx hb dX8_fills_31 (lv_at hl 7 rfl) ?_
    obtain ⟨r4, hq4, hf⟩ := bd_e hf
    refine x_vI (pc := 33) (As := [.int x7]) (rest := []) (isC := [0, 1]) (ws' := (w_X8_fills G a_t a_t_s a_t_image a_t_mind a_t_aside a_t_text a_t_read a_t_comes a_t_begins a_t_latest a_t_move a_t_sort a_t_items a_t_cell a_t_carried t_isKept t_work t_kind t_letters t_at t_fault t_back t_waits t_miles t_loads t_bestRound t_bestPlace t_bestAdds t_regret t_z t_s t_comes t_begins)) C S (c_X8_roundOf l G a_t a_t_s a_t_image a_t_mind a_t_aside a_t_text a_t_read a_t_comes a_t_begins a_t_latest a_t_move a_t_sort a_t_items a_t_cell a_t_carried t_isKept t_work t_kind t_letters t_at t_fault t_back t_waits t_miles t_loads t_bestRound t_bestPlace t_bestAdds t_regret t_z t_s x7 r4 hq4) (u_X8_fills_X8_roundOf_157 hts) (ci := 8) rfl 0 rfl rfl (by decide +kernel) [some 0, some 1, none, none] (by decide +kernel) rfl rfl rfl hl.1 rfl (Nat.le_of_ble_eq_true rfl) dX8_fills_33 (fun H locs S => ?_)
    refine lv_if_ge (tgt := 109) (pc := 36) hx hb dX8_fills_36 (by decide) (fun c5 => ?_) (fun c5 => ?_)
    · have hf := ifp c5 hf
      refine lv_iinc (pc := 109) (v := (x7 + (1 : Int32))) (lv' := [(7, .int (x7 + (1 : Int32))), (0, .ref a_t), (1, .int x1), (2, .int x2), (3, .int x3), (4, .int x4), (5, .int x5), (6, .int x6)]) hx hb dX8_fills_109 hl (k := 7) rfl (congrArg (fun z => x7 + z) ic_1) (by decide) rfl (fun ls hl => ?_)
      refine lv_goto (tgt := 19) (pc := 112) hx hb dX8_fills_112 (by decide) ?_
      exact hk19 (x2) (x3) (x4) (x5) (x6) ((x7 + (1 : Int32))) (t_s) (t_comes) (t_begins) (t_back) (t_waits) (t_loads) (t_bestRound) (t_bestPlace) (t_bestAdds) (t_regret)  hf S (lv_sub hl [1, 2, 3, 4, 5, 6, 7, 0] rfl)
    · have hf := ifn c5 hf
      refine lv_aload_n (pc := 39) hx hb dX8_fills_39 rfl (lv_at hl 0 rfl) ?_
      refine lv_iload (pc := 40) hx hb dX8_fills_40 (lv_at hl 7 rfl) ?_
      obtain ⟨⟨r6, o6_t_s, o6_t_comes, o6_t_begins, o6_t_back, o6_t_waits, o6_t_loads, o6_t_bestRound, o6_t_bestPlace, o6_t_bestAdds, o6_t_regret⟩, hq6, hf⟩ := bd_e hf
      refine x_vI (pc := 42) (As := [.int x7]) (rest := []) (isC := [0, 1, 2, 3]) (ws' := (w_X8_fills G a_t a_t_s a_t_image a_t_mind a_t_aside a_t_text a_t_read a_t_comes a_t_begins a_t_latest a_t_move a_t_sort a_t_items a_t_cell a_t_carried t_isKept t_work t_kind t_letters t_at t_fault o6_t_back o6_t_waits t_miles o6_t_loads o6_t_bestRound o6_t_bestPlace o6_t_bestAdds o6_t_regret t_z o6_t_s o6_t_comes o6_t_begins)) C S (c_X8_cheapestOfAll l G a_t a_t_s a_t_image a_t_mind a_t_aside a_t_text a_t_read a_t_comes a_t_begins a_t_latest a_t_move a_t_sort a_t_items a_t_cell a_t_carried t_isKept t_work t_kind t_letters t_at t_fault t_back t_waits t_miles t_loads t_bestRound t_bestPlace t_bestAdds t_regret t_z t_s t_comes t_begins x7 r6 o6_t_s o6_t_comes o6_t_begins o6_t_back o6_t_waits o6_t_loads o6_t_bestRound o6_t_bestPlace o6_t_bestAdds o6_t_regret hq6) (u_X8_fills_X8_cheapestOfAll_202 hts) (ci := 8) rfl 0 rfl rfl (by decide +kernel) [some 0, some 1, some 2, some 3] (by decide +kernel) rfl rfl rfl hl.1 rfl (Nat.le_of_ble_eq_true rfl) dX8_fills_42 (fun H locs S => ?_)
      refine lv_if_ne (tgt := 51) (pc := 45) hx hb dX8_fills_45 (by decide) (fun c7 => ?_) (fun c7 => ?_)
      · have hf := ifn c7 hf
        refine lv_iload_n (pc := 51) hx hb dX8_fills_51 rfl (lv_at hl 2 rfl) ?_
        refine lv_if_lt (tgt := 83) (pc := 52) hx hb dX8_fills_52 (by decide) (fun c8 => ?_) (fun c8 => ?_)
        · have hf := ifp c8 hf
          exact k_X8_fills_83 C (t_isKept) (t_work) (t_kind) (t_letters) (t_at) (t_fault) (o6_t_back) (o6_t_waits) (t_miles) (o6_t_loads) (o6_t_bestRound) (o6_t_bestPlace) (o6_t_bestAdds) (o6_t_regret) (t_z) (o6_t_s) (o6_t_comes) (o6_t_begins) (x1) (x7) k2 hk2 k19 hk19 hf S (lv_sub hl [0, 1, 7] rfl)
        · have hf := ifn c8 hf
          refine lv_aload_n (pc := 55) hx hb dX8_fills_55 rfl (lv_at hl 0 rfl) ?_
          refine x_get (pc := 56) (ci := 8) (T := TX8) (v := .int o6_t_regret) C S 0 rfl rfl inlX8 22 (by decide) rfl qf_8_199 rfl dX8_fills_56 ?_
          refine lv_iload_n (pc := 59) hx hb dX8_fills_59 rfl (lv_at hl 3 rfl) ?_
          refine lv_icmp_lt (tgt := 109) (pc := 60) hx hb dX8_fills_60 (by decide) (fun c9 => ?_) (fun c9 => ?_)
          · have hf := ifp c9 hf
            refine lv_iinc (pc := 109) (v := (x7 + (1 : Int32))) (lv' := [(7, .int (x7 + (1 : Int32))), (0, .ref a_t), (1, .int x1), (2, .int x2), (3, .int x3), (4, .int x4), (5, .int x5), (6, .int x6)]) hx hb dX8_fills_109 hl (k := 7) rfl (congrArg (fun z => x7 + z) ic_1) (by decide) rfl (fun ls hl => ?_)
            refine lv_goto (tgt := 19) (pc := 112) hx hb dX8_fills_112 (by decide) ?_
            exact hk19 (x2) (x3) (x4) (x5) (x6) ((x7 + (1 : Int32))) (o6_t_s) (o6_t_comes) (o6_t_begins) (o6_t_back) (o6_t_waits) (o6_t_loads) (o6_t_bestRound) (o6_t_bestPlace) (o6_t_bestAdds) (o6_t_regret)  hf S (lv_sub hl [1, 2, 3, 4, 5, 6, 7, 0] rfl)
          · have hf := ifn c9 hf
            refine lv_aload_n (pc := 63) hx hb dX8_fills_63 rfl (lv_at hl 0 rfl) ?_
            refine x_get (pc := 64) (ci := 8) (T := TX8) (v := .int o6_t_regret) C S 0 rfl rfl inlX8 22 (by decide) rfl qf_8_199 rfl dX8_fills_64 ?_
            refine lv_iload_n (pc := 67) hx hb dX8_fills_67 rfl (lv_at hl 3 rfl) ?_
            refine lv_icmp_ne (tgt := 83) (pc := 68) hx hb dX8_fills_68 (by decide) (fun c10 => ?_) (fun c10 => ?_)
            · have hf := ifn c10 hf
              exact k_X8_fills_83 C (t_isKept) (t_work) (t_kind) (t_letters) (t_at) (t_fault) (o6_t_back) (o6_t_waits) (t_miles) (o6_t_loads) (o6_t_bestRound) (o6_t_bestPlace) (o6_t_bestAdds) (o6_t_regret) (t_z) (o6_t_s) (o6_t_comes) (o6_t_begins) (x1) (x7) k2 hk2 k19 hk19 hf S (lv_sub hl [0, 1, 7] rfl)
            · have hf := ifp c10 hf
              refine lv_aload_n (pc := 71) hx hb dX8_fills_71 rfl (lv_at hl 0 rfl) ?_
              refine x_get (pc := 72) (ci := 8) (T := TX8) (v := .int o6_t_bestAdds) C S 0 rfl rfl inlX8 21 (by decide) rfl qf_8_190 rfl dX8_fills_72 ?_
              refine lv_iload (pc := 75) hx hb dX8_fills_75 (lv_at hl 4 rfl) ?_
              refine lv_icmp_lt (tgt := 83) (pc := 77) hx hb dX8_fills_77 (by decide) (fun c11 => ?_) (fun c11 => ?_)
              · have hf := ifp c11 hf
                exact k_X8_fills_83 C (t_isKept) (t_work) (t_kind) (t_letters) (t_at) (t_fault) (o6_t_back) (o6_t_waits) (t_miles) (o6_t_loads) (o6_t_bestRound) (o6_t_bestPlace) (o6_t_bestAdds) (o6_t_regret) (t_z) (o6_t_s) (o6_t_comes) (o6_t_begins) (x1) (x7) k2 hk2 k19 hk19 hf S (lv_sub hl [0, 1, 7] rfl)
              · have hf := ifn c11 hf
                refine lv_goto (tgt := 109) (pc := 80) hx hb dX8_fills_80 (by decide) ?_
                refine lv_iinc (pc := 109) (v := (x7 + (1 : Int32))) (lv' := [(7, .int (x7 + (1 : Int32))), (0, .ref a_t), (1, .int x1), (2, .int x2), (3, .int x3), (4, .int x4), (5, .int x5), (6, .int x6)]) hx hb dX8_fills_109 hl (k := 7) rfl (congrArg (fun z => x7 + z) ic_1) (by decide) rfl (fun ls hl => ?_)
                refine lv_goto (tgt := 19) (pc := 112) hx hb dX8_fills_112 (by decide) ?_
                exact hk19 (x2) (x3) (x4) (x5) (x6) ((x7 + (1 : Int32))) (o6_t_s) (o6_t_comes) (o6_t_begins) (o6_t_back) (o6_t_waits) (o6_t_loads) (o6_t_bestRound) (o6_t_bestPlace) (o6_t_bestAdds) (o6_t_regret)  hf S (lv_sub hl [1, 2, 3, 4, 5, 6, 7, 0] rfl)
      · have hf := ifp c7 hf
        refine lv_goto (tgt := 109) (pc := 48) hx hb dX8_fills_48 (by decide) ?_
        refine lv_iinc (pc := 109) (v := (x7 + (1 : Int32))) (lv' := [(7, .int (x7 + (1 : Int32))), (0, .ref a_t), (1, .int x1), (2, .int x2), (3, .int x3), (4, .int x4), (5, .int x5), (6, .int x6)]) hx hb dX8_fills_109 hl (k := 7) rfl (congrArg (fun z => x7 + z) ic_1) (by decide) rfl (fun ls hl => ?_)
        refine lv_goto (tgt := 19) (pc := 112) hx hb dX8_fills_112 (by decide) ?_
        exact hk19 (x2) (x3) (x4) (x5) (x6) ((x7 + (1 : Int32))) (o6_t_s) (o6_t_comes) (o6_t_begins) (o6_t_back) (o6_t_waits) (o6_t_loads) (o6_t_bestRound) (o6_t_bestPlace) (o6_t_bestAdds) (o6_t_regret)  hf S (lv_sub hl [1, 2, 3, 4, 5, 6, 7, 0] rfl)
set_option maxRecDepth 100000 in
set_option maxHeartbeats 4000000 in
theorem h_X8_fills_19 (C : Cx p s m args meth c cX8_fills (some .int) 8 RX8 G A) (t_isKept : Int32) (t_work : Int32) (t_kind : Int32) (t_letters : Int32) (t_at : Int32) (t_fault : Int32) (t_miles : Int32) (t_z : Int32) (x1 : Int32) (k2 : Int32 × (Nat → Int32) × (Nat → Int32) × (Nat → Int32) × Int32 × Int32 × Int32 × Int32 × Int32 × Int32 × Int32 → Option (Int32 × (Nat → Int32) × (Nat → Int32) × (Nat → Int32) × Int32 × Int32 × Int32 × Int32 × Int32 × Int32 × Int32)) (hk2 : ∀ {H : Heap} {locs : List Loc} {ls : Array Slot} (x1' : Int32) (t_s' : Nat → Int32) (t_comes' : Nat → Int32) (t_begins' : Nat → Int32) (t_back' : Int32) (t_waits' : Int32) (t_loads' : Int32) (t_bestRound' : Int32) (t_bestPlace' : Int32) (t_bestAdds' : Int32) (t_regret' : Int32), k2 (x1', t_s', t_comes', t_begins', t_back', t_waits', t_loads', t_bestRound', t_bestPlace', t_bestAdds', t_regret') = some (r, z_t_s, z_t_comes, z_t_begins, z_t_back, z_t_waits, z_t_loads, z_t_bestRound, z_t_bestPlace, z_t_bestAdds, z_t_regret) → St G A s.heap H locs (w_X8_fills G a_t a_t_s a_t_image a_t_mind a_t_aside a_t_text a_t_read a_t_comes a_t_begins a_t_latest a_t_move a_t_sort a_t_items a_t_cell a_t_carried t_isKept t_work t_kind t_letters t_at t_fault t_back' t_waits' t_miles t_loads' t_bestRound' t_bestPlace' t_bestAdds' t_regret' t_z t_s' t_comes' t_begins') → lv_has ls 8 [(0, .ref a_t), (1, .int x1')] → W p l e rm_X8_fills s m args below meth c H locs 0 0 (QI G below args s A r (w_X8_fills G a_t a_t_s a_t_image a_t_mind a_t_aside a_t_text a_t_read a_t_comes a_t_begins a_t_latest a_t_move a_t_sort a_t_items a_t_cell a_t_carried t_isKept t_work t_kind t_letters t_at t_fault z_t_back z_t_waits t_miles z_t_loads z_t_bestRound z_t_bestPlace z_t_bestAdds z_t_regret t_z z_t_s z_t_comes z_t_begins)) (F0 m 2 ls [])) : ∀ (n : Nat) (x2 : Int32) (x3 : Int32) (x4 : Int32) (x5 : Int32) (x6 : Int32) (x7 : Int32) (t_s : Nat → Int32) (t_comes : Nat → Int32) (t_begins : Nat → Int32) (t_back : Int32) (t_waits : Int32) (t_loads : Int32) (t_bestRound : Int32) (t_bestPlace : Int32) (t_bestAdds : Int32) (t_regret : Int32) {H : Heap} {locs : List Loc} {ls : Array Slot} (hf : lp (fun k x => b_X8_fills_19 k2 x1 k x.1 x.2.1 x.2.2.1 x.2.2.2.1 x.2.2.2.2.1 x.2.2.2.2.2.1 x.2.2.2.2.2.2.1 x.2.2.2.2.2.2.2.1 x.2.2.2.2.2.2.2.2.1 x.2.2.2.2.2.2.2.2.2.1 x.2.2.2.2.2.2.2.2.2.2.1 x.2.2.2.2.2.2.2.2.2.2.2.1 x.2.2.2.2.2.2.2.2.2.2.2.2.1 x.2.2.2.2.2.2.2.2.2.2.2.2.2.1 x.2.2.2.2.2.2.2.2.2.2.2.2.2.2.1 x.2.2.2.2.2.2.2.2.2.2.2.2.2.2.2) n (x2, x3, x4, x5, x6, x7, t_s, t_comes, t_begins, t_back, t_waits, t_loads, t_bestRound, t_bestPlace, t_bestAdds, t_regret) = some (r, z_t_s, z_t_comes, z_t_begins, z_t_back, z_t_waits, z_t_loads, z_t_bestRound, z_t_bestPlace, z_t_bestAdds, z_t_regret)) (S : St G A s.heap H locs (w_X8_fills G a_t a_t_s a_t_image a_t_mind a_t_aside a_t_text a_t_read a_t_comes a_t_begins a_t_latest a_t_move a_t_sort a_t_items a_t_cell a_t_carried t_isKept t_work t_kind t_letters t_at t_fault t_back t_waits t_miles t_loads t_bestRound t_bestPlace t_bestAdds t_regret t_z t_s t_comes t_begins)) (hl : lv_has ls 8 [(0, .ref a_t), (1, .int x1), (2, .int x2), (3, .int x3), (4, .int x4), (5, .int x5), (6, .int x6), (7, .int x7)]), W p l e rm_X8_fills s m args below meth c H locs 0 0 (QI G below args s A r (w_X8_fills G a_t a_t_s a_t_image a_t_mind a_t_aside a_t_text a_t_read a_t_comes a_t_begins a_t_latest a_t_move a_t_sort a_t_items a_t_cell a_t_carried t_isKept t_work t_kind t_letters t_at t_fault z_t_back z_t_waits t_miles z_t_loads z_t_bestRound z_t_bestPlace z_t_bestAdds z_t_regret t_z z_t_s z_t_comes z_t_begins)) (F0 m 19 ls []) := by
  intro n
  induction n with
  | zero =>
    intro x2 x3 x4 x5 x6 x7 t_s t_comes t_begins t_back t_waits t_loads t_bestRound t_bestPlace t_bestAdds t_regret  H locs ls hf
    cases hf
  | succ n ih =>
    intro x2 x3 x4 x5 x6 x7 t_s t_comes t_begins t_back t_waits t_loads t_bestRound t_bestPlace t_bestAdds t_regret  H locs ls hf S hl
    have hf : b_X8_fills_19 k2 x1 (lp (fun k x => b_X8_fills_19 k2 x1 k x.1 x.2.1 x.2.2.1 x.2.2.2.1 x.2.2.2.2.1 x.2.2.2.2.2.1 x.2.2.2.2.2.2.1 x.2.2.2.2.2.2.2.1 x.2.2.2.2.2.2.2.2.1 x.2.2.2.2.2.2.2.2.2.1 x.2.2.2.2.2.2.2.2.2.2.1 x.2.2.2.2.2.2.2.2.2.2.2.1 x.2.2.2.2.2.2.2.2.2.2.2.2.1 x.2.2.2.2.2.2.2.2.2.2.2.2.2.1 x.2.2.2.2.2.2.2.2.2.2.2.2.2.2.1 x.2.2.2.2.2.2.2.2.2.2.2.2.2.2.2) n) x2 x3 x4 x5 x6 x7 t_s t_comes t_begins t_back t_waits t_loads t_bestRound t_bestPlace t_bestAdds t_regret = some (r, z_t_s, z_t_comes, z_t_begins, z_t_back, z_t_waits, z_t_loads, z_t_bestRound, z_t_bestPlace, z_t_bestAdds, z_t_regret) := hf
    exact k_X8_fills_19 C t_isKept t_work t_kind t_letters t_at t_fault t_back t_waits t_miles t_loads t_bestRound t_bestPlace t_bestAdds t_regret t_z t_s t_comes t_begins x1 x2 x3 x4 x5 x6 x7  k2 hk2 (lp (fun k x => b_X8_fills_19 k2 x1 k x.1 x.2.1 x.2.2.1 x.2.2.2.1 x.2.2.2.2.1 x.2.2.2.2.2.1 x.2.2.2.2.2.2.1 x.2.2.2.2.2.2.2.1 x.2.2.2.2.2.2.2.2.1 x.2.2.2.2.2.2.2.2.2.1 x.2.2.2.2.2.2.2.2.2.2.1 x.2.2.2.2.2.2.2.2.2.2.2.1 x.2.2.2.2.2.2.2.2.2.2.2.2.1 x.2.2.2.2.2.2.2.2.2.2.2.2.2.1 x.2.2.2.2.2.2.2.2.2.2.2.2.2.2.1 x.2.2.2.2.2.2.2.2.2.2.2.2.2.2.2) n) (fun x2' x3' x4' x5' x6' x7' t_s' t_comes' t_begins' t_back' t_waits' t_loads' t_bestRound' t_bestPlace' t_bestAdds' t_regret'  h S hl => ih x2' x3' x4' x5' x6' x7' t_s' t_comes' t_begins' t_back' t_waits' t_loads' t_bestRound' t_bestPlace' t_bestAdds' t_regret'  h S hl) hf S hl
set_option maxRecDepth 100000 in
set_option maxHeartbeats 4000000 in
theorem k_X8_fills_2 (C : Cx p s m args meth c cX8_fills (some .int) 8 RX8 G A) (t_isKept : Int32) (t_work : Int32) (t_kind : Int32) (t_letters : Int32) (t_at : Int32) (t_fault : Int32) (t_back : Int32) (t_waits : Int32) (t_miles : Int32) (t_loads : Int32) (t_bestRound : Int32) (t_bestPlace : Int32) (t_bestAdds : Int32) (t_regret : Int32) (t_z : Int32) (t_s : Nat → Int32) (t_comes : Nat → Int32) (t_begins : Nat → Int32) (x1 : Int32) (k2 : Int32 × (Nat → Int32) × (Nat → Int32) × (Nat → Int32) × Int32 × Int32 × Int32 × Int32 × Int32 × Int32 × Int32 → Option (Int32 × (Nat → Int32) × (Nat → Int32) × (Nat → Int32) × Int32 × Int32 × Int32 × Int32 × Int32 × Int32 × Int32)) (hk2 : ∀ {H : Heap} {locs : List Loc} {ls : Array Slot} (x1' : Int32) (t_s' : Nat → Int32) (t_comes' : Nat → Int32) (t_begins' : Nat → Int32) (t_back' : Int32) (t_waits' : Int32) (t_loads' : Int32) (t_bestRound' : Int32) (t_bestPlace' : Int32) (t_bestAdds' : Int32) (t_regret' : Int32), k2 (x1', t_s', t_comes', t_begins', t_back', t_waits', t_loads', t_bestRound', t_bestPlace', t_bestAdds', t_regret') = some (r, z_t_s, z_t_comes, z_t_begins, z_t_back, z_t_waits, z_t_loads, z_t_bestRound, z_t_bestPlace, z_t_bestAdds, z_t_regret) → St G A s.heap H locs (w_X8_fills G a_t a_t_s a_t_image a_t_mind a_t_aside a_t_text a_t_read a_t_comes a_t_begins a_t_latest a_t_move a_t_sort a_t_items a_t_cell a_t_carried t_isKept t_work t_kind t_letters t_at t_fault t_back' t_waits' t_miles t_loads' t_bestRound' t_bestPlace' t_bestAdds' t_regret' t_z t_s' t_comes' t_begins') → lv_has ls 8 [(0, .ref a_t), (1, .int x1')] → W p l e rm_X8_fills s m args below meth c H locs 0 0 (QI G below args s A r (w_X8_fills G a_t a_t_s a_t_image a_t_mind a_t_aside a_t_text a_t_read a_t_comes a_t_begins a_t_latest a_t_move a_t_sort a_t_items a_t_cell a_t_carried t_isKept t_work t_kind t_letters t_at t_fault z_t_back z_t_waits t_miles z_t_loads z_t_bestRound z_t_bestPlace z_t_bestAdds z_t_regret t_z z_t_s z_t_comes z_t_begins)) (F0 m 2 ls [])) {H : Heap} {locs : List Loc} {ls : Array Slot} (hf : b_X8_fills_2 k2 x1 t_s t_comes t_begins t_back t_waits t_loads t_bestRound t_bestPlace t_bestAdds t_regret = some (r, z_t_s, z_t_comes, z_t_begins, z_t_back, z_t_waits, z_t_loads, z_t_bestRound, z_t_bestPlace, z_t_bestAdds, z_t_regret)) (S : St G A s.heap H locs (w_X8_fills G a_t a_t_s a_t_image a_t_mind a_t_aside a_t_text a_t_read a_t_comes a_t_begins a_t_latest a_t_move a_t_sort a_t_items a_t_cell a_t_carried t_isKept t_work t_kind t_letters t_at t_fault t_back t_waits t_miles t_loads t_bestRound t_bestPlace t_bestAdds t_regret t_z t_s t_comes t_begins)) (hl : lv_has ls 8 [(0, .ref a_t), (1, .int x1)]) : W p l e rm_X8_fills s m args below meth c H locs 0 0 (QI G below args s A r (w_X8_fills G a_t a_t_s a_t_image a_t_mind a_t_aside a_t_text a_t_read a_t_comes a_t_begins a_t_latest a_t_move a_t_sort a_t_items a_t_cell a_t_carried t_isKept t_work t_kind t_letters t_at t_fault z_t_back z_t_waits t_miles z_t_loads z_t_bestRound z_t_bestPlace z_t_bestAdds z_t_regret t_z z_t_s z_t_comes z_t_begins)) (F0 m 2 ls []) := by
  unfold b_X8_fills_2 at hf
  have hx := C.1
  have hb := C.2.1
  have hown := C.2.2.2.2.1
  have hts := C.2.2.2.2.2.1
  have hN := C.2.2.2.2.2.2.2.2.2.2
  refine lv_bipush (pc := 2) hx hb dX8_fills_2 bc_m5 ?_
  refine lv_istore_n (pc := 4) (lv' := [(2, .int (-5 : Int32)), (0, .ref a_t), (1, .int x1)]) hx hb dX8_fills_4 rfl hl (by decide) rfl (fun ls hl => ?_)
  refine lv_iconst (pc := 5) hx hb dX8_fills_5 ic_0 ?_
  refine lv_istore_n (pc := 6) (lv' := [(3, .int (0 : Int32)), (2, .int (-5 : Int32)), (0, .ref a_t), (1, .int x1)]) hx hb dX8_fills_6 rfl hl (by decide) rfl (fun ls hl => ?_)
  refine lv_iconst (pc := 7) hx hb dX8_fills_7 ic_0 ?_
  refine lv_istore (pc := 8) (lv' := [(4, .int (0 : Int32)), (3, .int (0 : Int32)), (2, .int (-5 : Int32)), (0, .ref a_t), (1, .int x1)]) hx hb dX8_fills_8 hl (by decide) rfl (fun ls hl => ?_)
  refine lv_iconst (pc := 10) hx hb dX8_fills_10 ic_0 ?_
  refine lv_istore (pc := 11) (lv' := [(5, .int (0 : Int32)), (4, .int (0 : Int32)), (3, .int (0 : Int32)), (2, .int (-5 : Int32)), (0, .ref a_t), (1, .int x1)]) hx hb dX8_fills_11 hl (by decide) rfl (fun ls hl => ?_)
  refine lv_iconst (pc := 13) hx hb dX8_fills_13 ic_0 ?_
  refine lv_istore (pc := 14) (lv' := [(6, .int (0 : Int32)), (5, .int (0 : Int32)), (4, .int (0 : Int32)), (3, .int (0 : Int32)), (2, .int (-5 : Int32)), (0, .ref a_t), (1, .int x1)]) hx hb dX8_fills_14 hl (by decide) rfl (fun ls hl => ?_)
  refine lv_iconst (pc := 16) hx hb dX8_fills_16 ic_0 ?_
  refine lv_istore (pc := 17) (lv' := [(7, .int (0 : Int32)), (6, .int (0 : Int32)), (5, .int (0 : Int32)), (4, .int (0 : Int32)), (3, .int (0 : Int32)), (2, .int (-5 : Int32)), (0, .ref a_t), (1, .int x1)]) hx hb dX8_fills_17 hl (by decide) rfl (fun ls hl => ?_)
  exact h_X8_fills_19 C (t_isKept) (t_work) (t_kind) (t_letters) (t_at) (t_fault) (t_miles) (t_z) (x1) k2 hk2 fu ((-5 : Int32)) ((0 : Int32)) ((0 : Int32)) ((0 : Int32)) ((0 : Int32)) ((0 : Int32)) (t_s) (t_comes) (t_begins) (t_back) (t_waits) (t_loads) (t_bestRound) (t_bestPlace) (t_bestAdds) (t_regret) hf S (lv_sub hl [6, 7, 5, 4, 3, 2, 1, 0] rfl)
set_option maxRecDepth 100000 in
set_option maxHeartbeats 4000000 in
theorem h_X8_fills_2 (C : Cx p s m args meth c cX8_fills (some .int) 8 RX8 G A) (t_isKept : Int32) (t_work : Int32) (t_kind : Int32) (t_letters : Int32) (t_at : Int32) (t_fault : Int32) (t_miles : Int32) (t_z : Int32) : ∀ (n : Nat) (x1 : Int32) (t_s : Nat → Int32) (t_comes : Nat → Int32) (t_begins : Nat → Int32) (t_back : Int32) (t_waits : Int32) (t_loads : Int32) (t_bestRound : Int32) (t_bestPlace : Int32) (t_bestAdds : Int32) (t_regret : Int32) {H : Heap} {locs : List Loc} {ls : Array Slot} (hf : lp (fun k x => b_X8_fills_2 k x.1 x.2.1 x.2.2.1 x.2.2.2.1 x.2.2.2.2.1 x.2.2.2.2.2.1 x.2.2.2.2.2.2.1 x.2.2.2.2.2.2.2.1 x.2.2.2.2.2.2.2.2.1 x.2.2.2.2.2.2.2.2.2.1 x.2.2.2.2.2.2.2.2.2.2) n (x1, t_s, t_comes, t_begins, t_back, t_waits, t_loads, t_bestRound, t_bestPlace, t_bestAdds, t_regret) = some (r, z_t_s, z_t_comes, z_t_begins, z_t_back, z_t_waits, z_t_loads, z_t_bestRound, z_t_bestPlace, z_t_bestAdds, z_t_regret)) (S : St G A s.heap H locs (w_X8_fills G a_t a_t_s a_t_image a_t_mind a_t_aside a_t_text a_t_read a_t_comes a_t_begins a_t_latest a_t_move a_t_sort a_t_items a_t_cell a_t_carried t_isKept t_work t_kind t_letters t_at t_fault t_back t_waits t_miles t_loads t_bestRound t_bestPlace t_bestAdds t_regret t_z t_s t_comes t_begins)) (hl : lv_has ls 8 [(0, .ref a_t), (1, .int x1)]), W p l e rm_X8_fills s m args below meth c H locs 0 0 (QI G below args s A r (w_X8_fills G a_t a_t_s a_t_image a_t_mind a_t_aside a_t_text a_t_read a_t_comes a_t_begins a_t_latest a_t_move a_t_sort a_t_items a_t_cell a_t_carried t_isKept t_work t_kind t_letters t_at t_fault z_t_back z_t_waits t_miles z_t_loads z_t_bestRound z_t_bestPlace z_t_bestAdds z_t_regret t_z z_t_s z_t_comes z_t_begins)) (F0 m 2 ls []) := by
  intro n
  induction n with
  | zero =>
    intro x1 t_s t_comes t_begins t_back t_waits t_loads t_bestRound t_bestPlace t_bestAdds t_regret  H locs ls hf
    cases hf
  | succ n ih =>
    intro x1 t_s t_comes t_begins t_back t_waits t_loads t_bestRound t_bestPlace t_bestAdds t_regret  H locs ls hf S hl
    have hf : b_X8_fills_2 (lp (fun k x => b_X8_fills_2 k x.1 x.2.1 x.2.2.1 x.2.2.2.1 x.2.2.2.2.1 x.2.2.2.2.2.1 x.2.2.2.2.2.2.1 x.2.2.2.2.2.2.2.1 x.2.2.2.2.2.2.2.2.1 x.2.2.2.2.2.2.2.2.2.1 x.2.2.2.2.2.2.2.2.2.2) n) x1 t_s t_comes t_begins t_back t_waits t_loads t_bestRound t_bestPlace t_bestAdds t_regret = some (r, z_t_s, z_t_comes, z_t_begins, z_t_back, z_t_waits, z_t_loads, z_t_bestRound, z_t_bestPlace, z_t_bestAdds, z_t_regret) := hf
    exact k_X8_fills_2 C t_isKept t_work t_kind t_letters t_at t_fault t_back t_waits t_miles t_loads t_bestRound t_bestPlace t_bestAdds t_regret t_z t_s t_comes t_begins x1  (lp (fun k x => b_X8_fills_2 k x.1 x.2.1 x.2.2.1 x.2.2.2.1 x.2.2.2.2.1 x.2.2.2.2.2.1 x.2.2.2.2.2.2.1 x.2.2.2.2.2.2.2.1 x.2.2.2.2.2.2.2.2.1 x.2.2.2.2.2.2.2.2.2.1 x.2.2.2.2.2.2.2.2.2.2) n) (fun x1' t_s' t_comes' t_begins' t_back' t_waits' t_loads' t_bestRound' t_bestPlace' t_bestAdds' t_regret'  h S hl => ih x1' t_s' t_comes' t_begins' t_back' t_waits' t_loads' t_bestRound' t_bestPlace' t_bestAdds' t_regret'  h S hl) hf S hl
set_option maxRecDepth 100000 in
set_option maxHeartbeats 4000000 in
theorem c_X8_fills (l : Launch) (G : GE) (a_t a_t_s a_t_image a_t_mind a_t_aside a_t_text a_t_read a_t_comes a_t_begins a_t_latest a_t_move a_t_sort a_t_items a_t_cell a_t_carried : Nat) (t_isKept : Int32) (t_work : Int32) (t_kind : Int32) (t_letters : Int32) (t_at : Int32) (t_fault : Int32) (t_back : Int32) (t_waits : Int32) (t_miles : Int32) (t_loads : Int32) (t_bestRound : Int32) (t_bestPlace : Int32) (t_bestAdds : Int32) (t_regret : Int32) (t_z : Int32) (t_s : Nat → Int32) (t_comes : Nat → Int32) (t_begins : Nat → Int32) (r : Int32) (z_t_s : Nat → Int32) (z_t_comes : Nat → Int32) (z_t_begins : Nat → Int32) (z_t_back : Int32) (z_t_waits : Int32) (z_t_loads : Int32) (z_t_bestRound : Int32) (z_t_bestPlace : Int32) (z_t_bestAdds : Int32) (z_t_regret : Int32) (hf : f_X8_fills t_s t_comes t_begins t_back t_waits t_loads t_bestRound t_bestPlace t_bestAdds t_regret = some (r, z_t_s, z_t_comes, z_t_begins, z_t_back, z_t_waits, z_t_loads, z_t_bestRound, z_t_bestPlace, z_t_bestAdds, z_t_regret)) : CI l G yX8_fills kw_X8_fills rm_X8_fills [.ref a_t] (w_X8_fills G a_t a_t_s a_t_image a_t_mind a_t_aside a_t_text a_t_read a_t_comes a_t_begins a_t_latest a_t_move a_t_sort a_t_items a_t_cell a_t_carried t_isKept t_work t_kind t_letters t_at t_fault t_back t_waits t_miles t_loads t_bestRound t_bestPlace t_bestAdds t_regret t_z t_s t_comes t_begins) r (w_X8_fills G a_t a_t_s a_t_image a_t_mind a_t_aside a_t_text a_t_read a_t_comes a_t_begins a_t_latest a_t_move a_t_sort a_t_items a_t_cell a_t_carried t_isKept t_work t_kind t_letters t_at t_fault z_t_back z_t_waits t_miles z_t_loads z_t_bestRound z_t_bestPlace z_t_bestAdds z_t_regret t_z z_t_s z_t_comes z_t_begins) := by
  refine en_I (cc := cX8_fills) (maxL := 8) (ret := (some .int)) (by decide +kernel) (Nat.le_of_ble_eq_true rfl) ?_
  intro p e s m args below meth c A ls C S hl
  have hl : lv_has ls 8 [(0, .ref a_t)] := hl
  have C : Cx p s m args meth c cX8_fills (some .int) 8 RX8 G A := C
  unfold f_X8_fills at hf
  have hx := C.1
  have hb := C.2.1
  have hown := C.2.2.2.2.1
  have hts := C.2.2.2.2.2.1
  have hN := C.2.2.2.2.2.2.2.2.2.2
  refine lv_iconst (pc := 0) hx hb dX8_fills_0 ic_0 ?_
  refine lv_istore_n (pc := 1) (lv' := [(1, .int (0 : Int32)), (0, .ref a_t)]) hx hb dX8_fills_1 rfl hl (by decide) rfl (fun ls hl => ?_)
  exact h_X8_fills_2 C (t_isKept) (t_work) (t_kind) (t_letters) (t_at) (t_fault) (t_miles) (t_z) fu ((0 : Int32)) (t_s) (t_comes) (t_begins) (t_back) (t_waits) (t_loads) (t_bestRound) (t_bestPlace) (t_bestAdds) (t_regret) hf S (lv_sub hl [1, 0] rfl)
end

abbrev rm_X8_inNone : Room := { frames := 3, cells := 0, slots := 0, locals := 67 }
abbrev kw_X8_inNone : Cond := .code yX8_inNone cX8_inNone 3 (some .int)
abbrev w_X8_inNone (G : GE) (a_t a_t_s a_t_image a_t_mind a_t_aside a_t_text a_t_read a_t_comes a_t_begins a_t_latest a_t_move a_t_sort a_t_items a_t_cell a_t_carried : Nat) (t_isKept : Int32) (t_work : Int32) (t_kind : Int32) (t_letters : Int32) (t_at : Int32) (t_fault : Int32) (t_back : Int32) (t_waits : Int32) (t_miles : Int32) (t_loads : Int32) (t_bestRound : Int32) (t_bestPlace : Int32) (t_bestAdds : Int32) (t_regret : Int32) (t_z : Int32) (t_s : Nat → Int32) : va_W := [(a_t, ob 8 [.ref a_t_s, .ref a_t_image, .ref a_t_mind, .ref a_t_aside, .int t_isKept, .int t_work, .int t_kind, .ref a_t_text, .ref a_t_read, .int t_letters, .int t_at, .int t_fault, .ref a_t_comes, .ref a_t_begins, .ref a_t_latest, .int t_back, .int t_waits, .int t_miles, .int t_loads, .int t_bestRound, .int t_bestPlace, .int t_bestAdds, .int t_regret, .ref a_t_move, .ref a_t_sort, .ref a_t_items, .ref a_t_cell, .ref a_t_carried, .int t_z]), (a_t_s, aI G 258 t_s)]
theorem u_X8_inNone_X8_roundOf_157 {s : State} {args : Array Value} (hts : ∀ w ∈ WU, w.before args s = true) : CallW rm_X8_inNone s args RX8 RX8 157 yX8_roundOf cX8_roundOf 3 (some .int) (kw_X8_roundOf :: WU) rm_X8_roundOf 0 0 1 := cwV 1 hts (gV qm_8_157 qi_X8_roundOf ql_X8_roundOf qn_8 qc_X8_roundOf) rfl rfl rfl (by decide +kernel) ⟨Nat.le_of_ble_eq_true rfl, Nat.le_of_ble_eq_true rfl⟩
section
variable {p : Program} {l : Launch} {e : Env} {s : State} {m : MethodId} {args : Array Value} {below : List Frame} {meth : Method} {c : Code} {A : Nat → Prop} {G : GE} {a_t a_t_s a_t_image a_t_mind a_t_aside a_t_text a_t_read a_t_comes a_t_begins a_t_latest a_t_move a_t_sort a_t_items a_t_cell a_t_carried : Nat} {r : Int32}
set_option maxRecDepth 100000 in
set_option maxHeartbeats 4000000 in
theorem k_X8_inNone_4 (C : Cx p s m args meth c cX8_inNone (some .int) 3 RX8 G A) (t_isKept : Int32) (t_work : Int32) (t_kind : Int32) (t_letters : Int32) (t_at : Int32) (t_fault : Int32) (t_back : Int32) (t_waits : Int32) (t_miles : Int32) (t_loads : Int32) (t_bestRound : Int32) (t_bestPlace : Int32) (t_bestAdds : Int32) (t_regret : Int32) (t_z : Int32) (t_s : Nat → Int32) (x1 : Int32) (x2 : Int32) (k4 : Int32 × Int32 → Option (Int32)) (hk4 : ∀ {H : Heap} {locs : List Loc} {ls : Array Slot} (x1' : Int32) (x2' : Int32), k4 (x1', x2') = some r → St G A s.heap H locs (w_X8_inNone G a_t a_t_s a_t_image a_t_mind a_t_aside a_t_text a_t_read a_t_comes a_t_begins a_t_latest a_t_move a_t_sort a_t_items a_t_cell a_t_carried t_isKept t_work t_kind t_letters t_at t_fault t_back t_waits t_miles t_loads t_bestRound t_bestPlace t_bestAdds t_regret t_z t_s) → lv_has ls 3 [(0, .ref a_t), (1, .int x1'), (2, .int x2')] → W p l e rm_X8_inNone s m args below meth c H locs 0 0 (QI G below args s A r (w_X8_inNone G a_t a_t_s a_t_image a_t_mind a_t_aside a_t_text a_t_read a_t_comes a_t_begins a_t_latest a_t_move a_t_sort a_t_items a_t_cell a_t_carried t_isKept t_work t_kind t_letters t_at t_fault t_back t_waits t_miles t_loads t_bestRound t_bestPlace t_bestAdds t_regret t_z t_s)) (F0 m 4 ls [])) {H : Heap} {locs : List Loc} {ls : Array Slot} (hf : b_X8_inNone_4 t_s k4 x1 x2 = some r) (S : St G A s.heap H locs (w_X8_inNone G a_t a_t_s a_t_image a_t_mind a_t_aside a_t_text a_t_read a_t_comes a_t_begins a_t_latest a_t_move a_t_sort a_t_items a_t_cell a_t_carried t_isKept t_work t_kind t_letters t_at t_fault t_back t_waits t_miles t_loads t_bestRound t_bestPlace t_bestAdds t_regret t_z t_s)) (hl : lv_has ls 3 [(0, .ref a_t), (1, .int x1), (2, .int x2)]) : W p l e rm_X8_inNone s m args below meth c H locs 0 0 (QI G below args s A r (w_X8_inNone G a_t a_t_s a_t_image a_t_mind a_t_aside a_t_text a_t_read a_t_comes a_t_begins a_t_latest a_t_move a_t_sort a_t_items a_t_cell a_t_carried t_isKept t_work t_kind t_letters t_at t_fault t_back t_waits t_miles t_loads t_bestRound t_bestPlace t_bestAdds t_regret t_z t_s)) (F0 m 4 ls []) := by
  unfold b_X8_inNone_4 at hf
  have hx := C.1
  have hb := C.2.1
  have hown := C.2.2.2.2.1
  have hts := C.2.2.2.2.2.1
  have hN := C.2.2.2.2.2.2.2.2.2.2
  refine lv_iload_n (pc := 4) hx hb dX8_inNone_4 rfl (lv_at hl 2 rfl) ?_
  refine lv_aload_n (pc := 5) hx hb dX8_inNone_5 rfl (lv_at hl 0 rfl) ?_
  refine x_get (pc := 6) (ci := 8) (T := TX8) (v := .ref a_t_s) C S 0 rfl rfl inlX8 0 (by decide) rfl qf_8_11 rfl dX8_inNone_6 ?_
  refine lv_iconst (pc := 9) hx hb dX8_inNone_9 ic_4 ?_
  refine x_iald (pc := 10) C S 1 rfl (vp_in_iff.mpr (by decide)) dX8_inNone_10 ?_
  refine lv_icmp_ge (tgt := 36) (pc := 11) hx hb dX8_inNone_11 (by decide) (fun c1 => ?_) (fun c1 => ?_)
  · have hf := ifp c1 hf
    refine lv_iload_n (pc := 36) hx hb dX8_inNone_36 rfl (lv_at hl 1 rfl) ?_
    cases hf
    exact x_iret (pc := 37) C S dX8_inNone_37
  · have hf := ifn c1 hf
    refine lv_iload_n (pc := 14) hx hb dX8_inNone_14 rfl (lv_at hl 1 rfl) ?_
    refine lv_aload_n (pc := 15) hx hb dX8_inNone_15 rfl (lv_at hl 0 rfl) ?_
    refine lv_iload_n (pc := 16) hx hb dX8_inNone_16 rfl (lv_at hl 2 rfl) ?_
    obtain ⟨r2, hq2, hf⟩ := bd_e hf
    refine x_vI (pc := 17) (As := [.int x2]) (rest := [.int x1]) (isC := [0, 1]) (ws' := (w_X8_inNone G a_t a_t_s a_t_image a_t_mind a_t_aside a_t_text a_t_read a_t_comes a_t_begins a_t_latest a_t_move a_t_sort a_t_items a_t_cell a_t_carried t_isKept t_work t_kind t_letters t_at t_fault t_back t_waits t_miles t_loads t_bestRound t_bestPlace t_bestAdds t_regret t_z t_s)) C S (c_X8_roundOf l G a_t a_t_s a_t_image a_t_mind a_t_aside a_t_text a_t_read a_t_comes a_t_begins a_t_latest a_t_move a_t_sort a_t_items a_t_cell a_t_carried t_isKept t_work t_kind t_letters t_at t_fault t_back t_waits t_miles t_loads t_bestRound t_bestPlace t_bestAdds t_regret t_z t_s x2 r2 hq2) (u_X8_inNone_X8_roundOf_157 hts) (ci := 8) rfl 0 rfl rfl (by decide +kernel) [some 0, some 1] (by decide +kernel) rfl rfl rfl hl.1 rfl (Nat.le_of_ble_eq_true rfl) dX8_inNone_17 (fun H locs S => ?_)
    refine lv_if_ge (tgt := 27) (pc := 20) hx hb dX8_inNone_20 (by decide) (fun c3 => ?_) (fun c3 => ?_)
    · have hf := ifp c3 hf
      refine lv_iconst (pc := 27) hx hb dX8_inNone_27 ic_0 ?_
      refine lv_iadd (pc := 28) hx hb dX8_inNone_28 ?_
      refine lv_istore_n (pc := 29) (lv' := [(1, .int (x1 + (0 : Int32))), (0, .ref a_t), (2, .int x2)]) hx hb dX8_inNone_29 rfl hl (by decide) rfl (fun ls hl => ?_)
      refine lv_iinc (pc := 30) (v := (x2 + (1 : Int32))) (lv' := [(2, .int (x2 + (1 : Int32))), (1, .int (x1 + (0 : Int32))), (0, .ref a_t)]) hx hb dX8_inNone_30 hl (k := 2) rfl (congrArg (fun z => x2 + z) ic_1) (by decide) rfl (fun ls hl => ?_)
      refine lv_goto (tgt := 4) (pc := 33) hx hb dX8_inNone_33 (by decide) ?_
      exact hk4 ((x1 + (0 : Int32))) ((x2 + (1 : Int32)))  hf S (lv_sub hl [2, 1, 0] rfl)
    · have hf := ifn c3 hf
      refine lv_iconst (pc := 23) hx hb dX8_inNone_23 ic_1 ?_
      refine lv_goto (tgt := 28) (pc := 24) hx hb dX8_inNone_24 (by decide) ?_
      refine lv_iadd (pc := 28) hx hb dX8_inNone_28 ?_
      refine lv_istore_n (pc := 29) (lv' := [(1, .int (x1 + (1 : Int32))), (0, .ref a_t), (2, .int x2)]) hx hb dX8_inNone_29 rfl hl (by decide) rfl (fun ls hl => ?_)
      refine lv_iinc (pc := 30) (v := (x2 + (1 : Int32))) (lv' := [(2, .int (x2 + (1 : Int32))), (1, .int (x1 + (1 : Int32))), (0, .ref a_t)]) hx hb dX8_inNone_30 hl (k := 2) rfl (congrArg (fun z => x2 + z) ic_1) (by decide) rfl (fun ls hl => ?_)
      refine lv_goto (tgt := 4) (pc := 33) hx hb dX8_inNone_33 (by decide) ?_
      exact hk4 ((x1 + (1 : Int32))) ((x2 + (1 : Int32)))  hf S (lv_sub hl [2, 1, 0] rfl)
set_option maxRecDepth 100000 in
set_option maxHeartbeats 4000000 in
theorem h_X8_inNone_4 (C : Cx p s m args meth c cX8_inNone (some .int) 3 RX8 G A) (t_isKept : Int32) (t_work : Int32) (t_kind : Int32) (t_letters : Int32) (t_at : Int32) (t_fault : Int32) (t_back : Int32) (t_waits : Int32) (t_miles : Int32) (t_loads : Int32) (t_bestRound : Int32) (t_bestPlace : Int32) (t_bestAdds : Int32) (t_regret : Int32) (t_z : Int32) (t_s : Nat → Int32) : ∀ (n : Nat) (x1 : Int32) (x2 : Int32) {H : Heap} {locs : List Loc} {ls : Array Slot} (hf : lp (fun k x => b_X8_inNone_4 t_s k x.1 x.2) n (x1, x2) = some r) (S : St G A s.heap H locs (w_X8_inNone G a_t a_t_s a_t_image a_t_mind a_t_aside a_t_text a_t_read a_t_comes a_t_begins a_t_latest a_t_move a_t_sort a_t_items a_t_cell a_t_carried t_isKept t_work t_kind t_letters t_at t_fault t_back t_waits t_miles t_loads t_bestRound t_bestPlace t_bestAdds t_regret t_z t_s)) (hl : lv_has ls 3 [(0, .ref a_t), (1, .int x1), (2, .int x2)]), W p l e rm_X8_inNone s m args below meth c H locs 0 0 (QI G below args s A r (w_X8_inNone G a_t a_t_s a_t_image a_t_mind a_t_aside a_t_text a_t_read a_t_comes a_t_begins a_t_latest a_t_move a_t_sort a_t_items a_t_cell a_t_carried t_isKept t_work t_kind t_letters t_at t_fault t_back t_waits t_miles t_loads t_bestRound t_bestPlace t_bestAdds t_regret t_z t_s)) (F0 m 4 ls []) := by
  intro n
  induction n with
  | zero =>
    intro x1 x2  H locs ls hf
    cases hf
  | succ n ih =>
    intro x1 x2  H locs ls hf S hl
    have hf : b_X8_inNone_4 t_s (lp (fun k x => b_X8_inNone_4 t_s k x.1 x.2) n) x1 x2 = some r := hf
    exact k_X8_inNone_4 C t_isKept t_work t_kind t_letters t_at t_fault t_back t_waits t_miles t_loads t_bestRound t_bestPlace t_bestAdds t_regret t_z t_s x1 x2  (lp (fun k x => b_X8_inNone_4 t_s k x.1 x.2) n) (fun x1' x2'  h S hl => ih x1' x2'  h S hl) hf S hl
set_option maxRecDepth 100000 in
set_option maxHeartbeats 4000000 in
theorem c_X8_inNone (l : Launch) (G : GE) (a_t a_t_s a_t_image a_t_mind a_t_aside a_t_text a_t_read a_t_comes a_t_begins a_t_latest a_t_move a_t_sort a_t_items a_t_cell a_t_carried : Nat) (t_isKept : Int32) (t_work : Int32) (t_kind : Int32) (t_letters : Int32) (t_at : Int32) (t_fault : Int32) (t_back : Int32) (t_waits : Int32) (t_miles : Int32) (t_loads : Int32) (t_bestRound : Int32) (t_bestPlace : Int32) (t_bestAdds : Int32) (t_regret : Int32) (t_z : Int32) (t_s : Nat → Int32) (r : Int32) (hf : f_X8_inNone t_s = some r) : CI l G yX8_inNone kw_X8_inNone rm_X8_inNone [.ref a_t] (w_X8_inNone G a_t a_t_s a_t_image a_t_mind a_t_aside a_t_text a_t_read a_t_comes a_t_begins a_t_latest a_t_move a_t_sort a_t_items a_t_cell a_t_carried t_isKept t_work t_kind t_letters t_at t_fault t_back t_waits t_miles t_loads t_bestRound t_bestPlace t_bestAdds t_regret t_z t_s) r (w_X8_inNone G a_t a_t_s a_t_image a_t_mind a_t_aside a_t_text a_t_read a_t_comes a_t_begins a_t_latest a_t_move a_t_sort a_t_items a_t_cell a_t_carried t_isKept t_work t_kind t_letters t_at t_fault t_back t_waits t_miles t_loads t_bestRound t_bestPlace t_bestAdds t_regret t_z t_s) := by
  refine en_I (cc := cX8_inNone) (maxL := 3) (ret := (some .int)) (by decide +kernel) (Nat.le_of_ble_eq_true rfl) ?_
  intro p e s m args below meth c A ls C S hl
  have hl : lv_has ls 3 [(0, .ref a_t)] := hl
  have C : Cx p s m args meth c cX8_inNone (some .int) 3 RX8 G A := C
  unfold f_X8_inNone at hf
  have hx := C.1
  have hb := C.2.1
  have hown := C.2.2.2.2.1
  have hts := C.2.2.2.2.2.1
  have hN := C.2.2.2.2.2.2.2.2.2.2
  refine lv_iconst (pc := 0) hx hb dX8_inNone_0 ic_0 ?_
  refine lv_istore_n (pc := 1) (lv' := [(1, .int (0 : Int32)), (0, .ref a_t)]) hx hb dX8_inNone_1 rfl hl (by decide) rfl (fun ls hl => ?_)
  refine lv_iconst (pc := 2) hx hb dX8_inNone_2 ic_0 ?_
  refine lv_istore_n (pc := 3) (lv' := [(2, .int (0 : Int32)), (1, .int (0 : Int32)), (0, .ref a_t)]) hx hb dX8_inNone_3 rfl hl (by decide) rfl (fun ls hl => ?_)
  exact h_X8_inNone_4 C (t_isKept) (t_work) (t_kind) (t_letters) (t_at) (t_fault) (t_back) (t_waits) (t_miles) (t_loads) (t_bestRound) (t_bestPlace) (t_bestAdds) (t_regret) (t_z) (t_s) fu ((0 : Int32)) ((0 : Int32)) hf S (lv_sub hl [2, 1, 0] rfl)
end

abbrev rm_X8_drawnBy : Room := { frames := 9, cells := 0, slots := 0, locals := 221 }
abbrev kw_X8_drawnBy : Cond := .code yX8_drawnBy cX8_drawnBy 9 (some .int)
abbrev w_X8_drawnBy (G : GE) (a_t a_t_s a_t_image a_t_mind a_t_aside a_t_text a_t_read a_t_comes a_t_begins a_t_latest a_t_move a_t_sort a_t_items a_t_cell a_t_carried : Nat) (t_isKept : Int32) (t_work : Int32) (t_kind : Int32) (t_letters : Int32) (t_at : Int32) (t_fault : Int32) (t_back : Int32) (t_waits : Int32) (t_miles : Int32) (t_loads : Int32) (t_bestRound : Int32) (t_bestPlace : Int32) (t_bestAdds : Int32) (t_regret : Int32) (t_z : Int32) (t_s : Nat → Int32) (t_mind : Nat → Int32) (t_comes : Nat → Int32) (t_begins : Nat → Int32) : va_W := [(a_t, ob 8 [.ref a_t_s, .ref a_t_image, .ref a_t_mind, .ref a_t_aside, .int t_isKept, .int t_work, .int t_kind, .ref a_t_text, .ref a_t_read, .int t_letters, .int t_at, .int t_fault, .ref a_t_comes, .ref a_t_begins, .ref a_t_latest, .int t_back, .int t_waits, .int t_miles, .int t_loads, .int t_bestRound, .int t_bestPlace, .int t_bestAdds, .int t_regret, .ref a_t_move, .ref a_t_sort, .ref a_t_items, .ref a_t_cell, .ref a_t_carried, .int t_z]), (a_t_s, aI G 258 t_s), (a_t_mind, aI G 258 t_mind), (a_t_comes, aI G 16 t_comes), (a_t_begins, aI G 16 t_begins)]
theorem u_X8_drawnBy_X8_copies_269 {s : State} {args : Array Value} (hts : ∀ w ∈ WU, w.before args s = true) : CallB rm_X8_drawnBy s args RX8 269 yX8_copies cX8_copies 3 none (kw_X8_copies :: WU) rm_X8_copies 0 0 2 ∧ (Cond.static yX8_copies).before args s = true := va_cwS 2 hts (gS qm_8_269 qs_X8_copies qn_8 qc_X8_copies) rfl rfl rfl (by decide +kernel) ⟨Nat.le_of_ble_eq_true rfl, Nat.le_of_ble_eq_true rfl⟩
theorem u_X8_drawnBy_X8_draws_273 {s : State} {args : Array Value} (hts : ∀ w ∈ WU, w.before args s = true) : CallW rm_X8_drawnBy s args RX8 RX8 273 yX8_draws cX8_draws 2 (some .int) (kw_X8_draws :: WU) rm_X8_draws 0 0 1 := cwV 1 hts (gV qm_8_273 qi_X8_draws ql_X8_draws qn_8 qc_X8_draws) rfl rfl rfl (by decide +kernel) ⟨Nat.le_of_ble_eq_true rfl, Nat.le_of_ble_eq_true rfl⟩
theorem u_X8_drawnBy_X8_comes_118 {s : State} {args : Array Value} (hts : ∀ w ∈ WU, w.before args s = true) : CallW rm_X8_drawnBy s args RX8 RX8 118 yX8_comes cX8_comes 8 none (kw_X8_comes :: WU) rm_X8_comes 0 0 6 := cwV 6 hts (gV qm_8_118 qi_X8_comes ql_X8_comes qn_8 qc_X8_comes) rfl rfl rfl (by decide +kernel) ⟨Nat.le_of_ble_eq_true rfl, Nat.le_of_ble_eq_true rfl⟩
theorem u_X8_drawnBy_X8_fills_211 {s : State} {args : Array Value} (hts : ∀ w ∈ WU, w.before args s = true) : CallW rm_X8_drawnBy s args RX8 RX8 211 yX8_fills cX8_fills 8 (some .int) (kw_X8_fills :: WU) rm_X8_fills 0 0 0 := cwV 0 hts (gV qm_8_211 qi_X8_fills ql_X8_fills qn_8 qc_X8_fills) rfl rfl rfl (by decide +kernel) ⟨Nat.le_of_ble_eq_true rfl, Nat.le_of_ble_eq_true rfl⟩
theorem u_X8_drawnBy_X8_inNone_242 {s : State} {args : Array Value} (hts : ∀ w ∈ WU, w.before args s = true) : CallW rm_X8_drawnBy s args RX8 RX8 242 yX8_inNone cX8_inNone 3 (some .int) (kw_X8_inNone :: WU) rm_X8_inNone 0 0 0 := cwV 0 hts (gV qm_8_242 qi_X8_inNone ql_X8_inNone qn_8 qc_X8_inNone) rfl rfl rfl (by decide +kernel) ⟨Nat.le_of_ble_eq_true rfl, Nat.le_of_ble_eq_true rfl⟩
section
variable {p : Program} {l : Launch} {e : Env} {s : State} {m : MethodId} {args : Array Value} {below : List Frame} {meth : Method} {c : Code} {A : Nat → Prop} {G : GE} {a_t a_t_s a_t_image a_t_mind a_t_aside a_t_text a_t_read a_t_comes a_t_begins a_t_latest a_t_move a_t_sort a_t_items a_t_cell a_t_carried : Nat} {r : Int32} {z_t_s : Nat → Int32} {z_t_mind : Nat → Int32} {z_t_comes : Nat → Int32} {z_t_begins : Nat → Int32} {z_t_back : Int32} {z_t_waits : Int32} {z_t_loads : Int32} {z_t_bestRound : Int32} {z_t_bestPlace : Int32} {z_t_bestAdds : Int32} {z_t_regret : Int32} {z_t_z : Int32}
set_option maxRecDepth 100000 in
set_option maxHeartbeats 4000000 in
theorem k_X8_drawnBy_108 (C : Cx p s m args meth c cX8_drawnBy (some .int) 9 RX8 G A) (t_isKept : Int32) (t_work : Int32) (t_kind : Int32) (t_letters : Int32) (t_at : Int32) (t_fault : Int32) (t_back : Int32) (t_waits : Int32) (t_miles : Int32) (t_loads : Int32) (t_bestRound : Int32) (t_bestPlace : Int32) (t_bestAdds : Int32) (t_regret : Int32) (t_z : Int32) (t_s : Nat → Int32) (t_mind : Nat → Int32) (t_comes : Nat → Int32) (t_begins : Nat → Int32) {H : Heap} {locs : List Loc} {ls : Array Slot} (hf : b_X8_drawnBy_108 t_s t_mind t_comes t_begins t_back t_waits t_loads t_bestRound t_bestPlace t_bestAdds t_regret t_z = some (r, z_t_s, z_t_mind, z_t_comes, z_t_begins, z_t_back, z_t_waits, z_t_loads, z_t_bestRound, z_t_bestPlace, z_t_bestAdds, z_t_regret, z_t_z)) (S : St G A s.heap H locs (w_X8_drawnBy G a_t a_t_s a_t_image a_t_mind a_t_aside a_t_text a_t_read a_t_comes a_t_begins a_t_latest a_t_move a_t_sort a_t_items a_t_cell a_t_carried t_isKept t_work t_kind t_letters t_at t_fault t_back t_waits t_miles t_loads t_bestRound t_bestPlace t_bestAdds t_regret t_z t_s t_mind t_comes t_begins)) (hl : lv_has ls 9 [(0, .ref a_t)]) : W p l e rm_X8_drawnBy s m args below meth c H locs 0 0 (QI G below args s A r (w_X8_drawnBy G a_t a_t_s a_t_image a_t_mind a_t_aside a_t_text a_t_read a_t_comes a_t_begins a_t_latest a_t_move a_t_sort a_t_items a_t_cell a_t_carried t_isKept t_work t_kind t_letters t_at t_fault z_t_back z_t_waits t_miles z_t_loads z_t_bestRound z_t_bestPlace z_t_bestAdds z_t_regret z_t_z z_t_s z_t_mind z_t_comes z_t_begins)) (F0 m 108 ls []) := by
  unfold b_X8_drawnBy_108 at hf
  have hx := C.1
  have hb := C.2.1
  have hown := C.2.2.2.2.1
  have hts := C.2.2.2.2.2.1
  have hN := C.2.2.2.2.2.2.2.2.2.2
  refine lv_aload_n (pc := 108) hx hb dX8_drawnBy_108 rfl (lv_at hl 0 rfl) ?_
  obtain ⟨⟨r1, o1_t_s, o1_t_comes, o1_t_begins, o1_t_back, o1_t_waits, o1_t_loads, o1_t_bestRound, o1_t_bestPlace, o1_t_bestAdds, o1_t_regret⟩, hq1, hf⟩ := bd_e hf
  refine x_vI (pc := 109) (As := []) (rest := []) (isC := [0, 1, 3, 4]) (ws' := (w_X8_drawnBy G a_t a_t_s a_t_image a_t_mind a_t_aside a_t_text a_t_read a_t_comes a_t_begins a_t_latest a_t_move a_t_sort a_t_items a_t_cell a_t_carried t_isKept t_work t_kind t_letters t_at t_fault o1_t_back o1_t_waits t_miles o1_t_loads o1_t_bestRound o1_t_bestPlace o1_t_bestAdds o1_t_regret t_z o1_t_s t_mind o1_t_comes o1_t_begins)) C S (c_X8_fills l G a_t a_t_s a_t_image a_t_mind a_t_aside a_t_text a_t_read a_t_comes a_t_begins a_t_latest a_t_move a_t_sort a_t_items a_t_cell a_t_carried t_isKept t_work t_kind t_letters t_at t_fault t_back t_waits t_miles t_loads t_bestRound t_bestPlace t_bestAdds t_regret t_z t_s t_comes t_begins r1 o1_t_s o1_t_comes o1_t_begins o1_t_back o1_t_waits o1_t_loads o1_t_bestRound o1_t_bestPlace o1_t_bestAdds o1_t_regret hq1) (u_X8_drawnBy_X8_fills_211 hts) (ci := 8) rfl 0 rfl rfl (by decide +kernel) [some 0, some 1, none, some 2, some 3] (by decide +kernel) rfl rfl rfl hl.1 rfl (Nat.le_of_ble_eq_true rfl) dX8_drawnBy_109 (fun H locs S => ?_)
  refine lv_pop (pc := 112) hx hb dX8_drawnBy_112 rfl ?_
  refine lv_aload_n (pc := 113) hx hb dX8_drawnBy_113 rfl (lv_at hl 0 rfl) ?_
  obtain ⟨r2, hq2, hf⟩ := bd_e hf
  refine x_vI (pc := 114) (As := []) (rest := []) (isC := [0, 1]) (ws' := (w_X8_drawnBy G a_t a_t_s a_t_image a_t_mind a_t_aside a_t_text a_t_read a_t_comes a_t_begins a_t_latest a_t_move a_t_sort a_t_items a_t_cell a_t_carried t_isKept t_work t_kind t_letters t_at t_fault o1_t_back o1_t_waits t_miles o1_t_loads o1_t_bestRound o1_t_bestPlace o1_t_bestAdds o1_t_regret t_z o1_t_s t_mind o1_t_comes o1_t_begins)) C S (c_X8_inNone l G a_t a_t_s a_t_image a_t_mind a_t_aside a_t_text a_t_read a_t_comes a_t_begins a_t_latest a_t_move a_t_sort a_t_items a_t_cell a_t_carried t_isKept t_work t_kind t_letters t_at t_fault o1_t_back o1_t_waits t_miles o1_t_loads o1_t_bestRound o1_t_bestPlace o1_t_bestAdds o1_t_regret t_z o1_t_s r2 hq2) (u_X8_drawnBy_X8_inNone_242 hts) (ci := 8) rfl 0 rfl rfl (by decide +kernel) [some 0, some 1, none, none, none] (by decide +kernel) rfl rfl rfl hl.1 rfl (Nat.le_of_ble_eq_true rfl) dX8_drawnBy_114 (fun H locs S => ?_)
  refine lv_istore_n (pc := 117) (lv' := [(3, .int r2), (0, .ref a_t)]) hx hb dX8_drawnBy_117 rfl hl (by decide) rfl (fun ls hl => ?_)
  refine lv_aload_n (pc := 118) hx hb dX8_drawnBy_118 rfl (lv_at hl 1 rfl) ?_
  refine x_get (pc := 119) (ci := 8) (T := TX8) (v := .ref a_t_mind) C S 0 rfl rfl inlX8 2 (by decide) rfl qf_8_18 rfl dX8_drawnBy_119 ?_
  refine lv_aload_n (pc := 122) hx hb dX8_drawnBy_122 rfl (lv_at hl 1 rfl) ?_
  refine x_get (pc := 123) (ci := 8) (T := TX8) (v := .ref a_t_s) C S 0 rfl rfl inlX8 0 (by decide) rfl qf_8_11 rfl dX8_drawnBy_123 ?_
  obtain ⟨o3_t_s, hq3, hf⟩ := bd_e hf
  refine x_sV (pc := 126) (As := [.ref a_t_mind, .ref a_t_s]) (rest := []) (isC := [2, 1]) (ws' := (w_X8_drawnBy G a_t a_t_s a_t_image a_t_mind a_t_aside a_t_text a_t_read a_t_comes a_t_begins a_t_latest a_t_move a_t_sort a_t_items a_t_cell a_t_carried t_isKept t_work t_kind t_letters t_at t_fault o1_t_back o1_t_waits t_miles o1_t_loads o1_t_bestRound o1_t_bestPlace o1_t_bestAdds o1_t_regret t_z o3_t_s t_mind o1_t_comes o1_t_begins)) C S (c_X8_copies l G a_t_mind a_t_s 258 258 t_mind o1_t_s o3_t_s hq3) (u_X8_drawnBy_X8_copies_269 hts) rfl (by decide +kernel) [none, some 1, some 0, none, none] (by decide +kernel) rfl rfl rfl hl.1 rfl (Nat.le_of_ble_eq_true rfl) dX8_drawnBy_126 (fun H locs S => ?_)
  refine lv_iload_n (pc := 129) hx hb dX8_drawnBy_129 rfl (lv_at hl 0 rfl) ?_
  cases hf
  exact x_iret (pc := 130) C S dX8_drawnBy_130
set_option maxRecDepth 100000 in
set_option maxHeartbeats 4000000 in
theorem k_X8_drawnBy_18 (C : Cx p s m args meth c cX8_drawnBy (some .int) 9 RX8 G A) (t_isKept : Int32) (t_work : Int32) (t_kind : Int32) (t_letters : Int32) (t_at : Int32) (t_fault : Int32) (t_back : Int32) (t_waits : Int32) (t_miles : Int32) (t_loads : Int32) (t_bestRound : Int32) (t_bestPlace : Int32) (t_bestAdds : Int32) (t_regret : Int32) (t_z : Int32) (t_s : Nat → Int32) (t_mind : Nat → Int32) (t_comes : Nat → Int32) (t_begins : Nat → Int32) (x2 : Int32) (x3 : Int32) (k18 : Int32 × (Nat → Int32) × Int32 → Option (Int32 × (Nat → Int32) × (Nat → Int32) × (Nat → Int32) × (Nat → Int32) × Int32 × Int32 × Int32 × Int32 × Int32 × Int32 × Int32 × Int32)) (hk18 : ∀ {H : Heap} {locs : List Loc} {ls : Array Slot} (x3' : Int32) (t_s' : Nat → Int32) (t_z' : Int32), k18 (x3', t_s', t_z') = some (r, z_t_s, z_t_mind, z_t_comes, z_t_begins, z_t_back, z_t_waits, z_t_loads, z_t_bestRound, z_t_bestPlace, z_t_bestAdds, z_t_regret, z_t_z) → St G A s.heap H locs (w_X8_drawnBy G a_t a_t_s a_t_image a_t_mind a_t_aside a_t_text a_t_read a_t_comes a_t_begins a_t_latest a_t_move a_t_sort a_t_items a_t_cell a_t_carried t_isKept t_work t_kind t_letters t_at t_fault t_back t_waits t_miles t_loads t_bestRound t_bestPlace t_bestAdds t_regret t_z' t_s' t_mind t_comes t_begins) → lv_has ls 9 [(0, .ref a_t), (2, .int x2), (3, .int x3')] → W p l e rm_X8_drawnBy s m args below meth c H locs 0 0 (QI G below args s A r (w_X8_drawnBy G a_t a_t_s a_t_image a_t_mind a_t_aside a_t_text a_t_read a_t_comes a_t_begins a_t_latest a_t_move a_t_sort a_t_items a_t_cell a_t_carried t_isKept t_work t_kind t_letters t_at t_fault z_t_back z_t_waits t_miles z_t_loads z_t_bestRound z_t_bestPlace z_t_bestAdds z_t_regret z_t_z z_t_s z_t_mind z_t_comes z_t_begins)) (F0 m 18 ls [])) {H : Heap} {locs : List Loc} {ls : Array Slot} (hf : b_X8_drawnBy_18 x2 t_mind t_comes t_begins t_back t_waits t_loads t_bestRound t_bestPlace t_bestAdds t_regret k18 x3 t_s t_z = some (r, z_t_s, z_t_mind, z_t_comes, z_t_begins, z_t_back, z_t_waits, z_t_loads, z_t_bestRound, z_t_bestPlace, z_t_bestAdds, z_t_regret, z_t_z)) (S : St G A s.heap H locs (w_X8_drawnBy G a_t a_t_s a_t_image a_t_mind a_t_aside a_t_text a_t_read a_t_comes a_t_begins a_t_latest a_t_move a_t_sort a_t_items a_t_cell a_t_carried t_isKept t_work t_kind t_letters t_at t_fault t_back t_waits t_miles t_loads t_bestRound t_bestPlace t_bestAdds t_regret t_z t_s t_mind t_comes t_begins)) (hl : lv_has ls 9 [(0, .ref a_t), (2, .int x2), (3, .int x3)]) : W p l e rm_X8_drawnBy s m args below meth c H locs 0 0 (QI G below args s A r (w_X8_drawnBy G a_t a_t_s a_t_image a_t_mind a_t_aside a_t_text a_t_read a_t_comes a_t_begins a_t_latest a_t_move a_t_sort a_t_items a_t_cell a_t_carried t_isKept t_work t_kind t_letters t_at t_fault z_t_back z_t_waits t_miles z_t_loads z_t_bestRound z_t_bestPlace z_t_bestAdds z_t_regret z_t_z z_t_s z_t_mind z_t_comes z_t_begins)) (F0 m 18 ls []) := by
  unfold b_X8_drawnBy_18 at hf
  have hx := C.1
  have hb := C.2.1
  have hown := C.2.2.2.2.1
  have hts := C.2.2.2.2.2.1
  have hN := C.2.2.2.2.2.2.2.2.2.2
  refine lv_iload_n (pc := 18) hx hb dX8_drawnBy_18 rfl (lv_at hl 2 rfl) ?_
  refine lv_iload_n (pc := 19) hx hb dX8_drawnBy_19 rfl (lv_at hl 1 rfl) ?_
  refine lv_icmp_ge (tgt := 108) (pc := 20) hx hb dX8_drawnBy_20 (by decide) (fun c1 => ?_) (fun c1 => ?_)
  · have hf := ifp c1 hf
    exact k_X8_drawnBy_108 C (t_isKept) (t_work) (t_kind) (t_letters) (t_at) (t_fault) (t_back) (t_waits) (t_miles) (t_loads) (t_bestRound) (t_bestPlace) (t_bestAdds) (t_regret) (t_z) (t_s) (t_mind) (t_comes) (t_begins) hf S (lv_sub hl [0] rfl)
  · have hf := ifn c1 hf
    refine lv_aload_n (pc := 23) hx hb dX8_drawnBy_23 rfl (lv_at hl 0 rfl) ?_
    refine x_get (pc := 24) (ci := 8) (T := TX8) (v := .ref a_t_s) C S 0 rfl rfl inlX8 0 (by decide) rfl qf_8_11 rfl dX8_drawnBy_24 ?_
    refine lv_iconst (pc := 27) hx hb dX8_drawnBy_27 ic_4 ?_
    refine x_iald (pc := 28) C S 1 rfl (vp_in_iff.mpr (by decide)) dX8_drawnBy_28 ?_
    refine lv_bipush (pc := 29) hx hb dX8_drawnBy_29 bc_16 ?_
    refine lv_icmp_ge (tgt := 108) (pc := 31) hx hb dX8_drawnBy_31 (by decide) (fun c2 => ?_) (fun c2 => ?_)
    · have hf := ifp c2 hf
      exact k_X8_drawnBy_108 C (t_isKept) (t_work) (t_kind) (t_letters) (t_at) (t_fault) (t_back) (t_waits) (t_miles) (t_loads) (t_bestRound) (t_bestPlace) (t_bestAdds) (t_regret) (t_z) (t_s) (t_mind) (t_comes) (t_begins) hf S (lv_sub hl [0] rfl)
    · have hf := ifn c2 hf
      refine lv_aload_n (pc := 34) hx hb dX8_drawnBy_34 rfl (lv_at hl 0 rfl) ?_
      refine lv_bipush (pc := 35) hx hb dX8_drawnBy_35 bc_64 ?_
      obtain ⟨⟨r3, o3_t_z⟩, hq3, hf⟩ := bd_e hf
      refine x_vI (pc := 37) (As := [.int (64 : Int32)]) (rest := []) (isC := [0]) (ws' := (w_X8_drawnBy G a_t a_t_s a_t_image a_t_mind a_t_aside a_t_text a_t_read a_t_comes a_t_begins a_t_latest a_t_move a_t_sort a_t_items a_t_cell a_t_carried t_isKept t_work t_kind t_letters t_at t_fault t_back t_waits t_miles t_loads t_bestRound t_bestPlace t_bestAdds t_regret o3_t_z t_s t_mind t_comes t_begins)) C S (c_X8_draws l G a_t a_t_s a_t_image a_t_mind a_t_aside a_t_text a_t_read a_t_comes a_t_begins a_t_latest a_t_move a_t_sort a_t_items a_t_cell a_t_carried t_isKept t_work t_kind t_letters t_at t_fault t_back t_waits t_miles t_loads t_bestRound t_bestPlace t_bestAdds t_regret t_z (64 : Int32) r3 o3_t_z hq3) (u_X8_drawnBy_X8_draws_273 hts) (ci := 8) rfl 0 rfl rfl (by decide +kernel) [some 0, none, none, none, none] (by decide +kernel) rfl rfl rfl hl.1 rfl (Nat.le_of_ble_eq_true rfl) dX8_drawnBy_37 (fun H locs S => ?_)
      refine lv_istore (pc := 40) (lv' := [(4, .int r3), (0, .ref a_t), (2, .int x2), (3, .int x3)]) hx hb dX8_drawnBy_40 hl (by decide) rfl (fun ls hl => ?_)
      refine lv_aload_n (pc := 42) hx hb dX8_drawnBy_42 rfl (lv_at hl 1 rfl) ?_
      refine lv_bipush (pc := 43) hx hb dX8_drawnBy_43 bc_64 ?_
      obtain ⟨⟨r4, o4_t_z⟩, hq4, hf⟩ := bd_e hf
      refine x_vI (pc := 45) (As := [.int (64 : Int32)]) (rest := []) (isC := [0]) (ws' := (w_X8_drawnBy G a_t a_t_s a_t_image a_t_mind a_t_aside a_t_text a_t_read a_t_comes a_t_begins a_t_latest a_t_move a_t_sort a_t_items a_t_cell a_t_carried t_isKept t_work t_kind t_letters t_at t_fault t_back t_waits t_miles t_loads t_bestRound t_bestPlace t_bestAdds t_regret o4_t_z t_s t_mind t_comes t_begins)) C S (c_X8_draws l G a_t a_t_s a_t_image a_t_mind a_t_aside a_t_text a_t_read a_t_comes a_t_begins a_t_latest a_t_move a_t_sort a_t_items a_t_cell a_t_carried t_isKept t_work t_kind t_letters t_at t_fault t_back t_waits t_miles t_loads t_bestRound t_bestPlace t_bestAdds t_regret o3_t_z (64 : Int32) r4 o4_t_z hq4) (u_X8_drawnBy_X8_draws_273 hts) (ci := 8) rfl 0 rfl rfl (by decide +kernel) [some 0, none, none, none, none] (by decide +kernel) rfl rfl rfl hl.1 rfl (Nat.le_of_ble_eq_true rfl) dX8_drawnBy_45 (fun H locs S => ?_)
      refine lv_istore (pc := 48) (lv' := [(5, .int r4), (4, .int r3), (0, .ref a_t), (2, .int x2), (3, .int x3)]) hx hb dX8_drawnBy_48 hl (by decide) rfl (fun ls hl => ?_)
      refine lv_aload_n (pc := 50) hx hb dX8_drawnBy_50 rfl (lv_at hl 2 rfl) ?_
      refine lv_bipush (pc := 51) hx hb dX8_drawnBy_51 bc_10 ?_
      obtain ⟨⟨r5, o5_t_z⟩, hq5, hf⟩ := bd_e hf
      refine x_vI (pc := 53) (As := [.int (10 : Int32)]) (rest := []) (isC := [0]) (ws' := (w_X8_drawnBy G a_t a_t_s a_t_image a_t_mind a_t_aside a_t_text a_t_read a_t_comes a_t_begins a_t_latest a_t_move a_t_sort a_t_items a_t_cell a_t_carried t_isKept t_work t_kind t_letters t_at t_fault t_back t_waits t_miles t_loads t_bestRound t_bestPlace t_bestAdds t_regret o5_t_z t_s t_mind t_comes t_begins)) C S (c_X8_draws l G a_t a_t_s a_t_image a_t_mind a_t_aside a_t_text a_t_read a_t_comes a_t_begins a_t_latest a_t_move a_t_sort a_t_items a_t_cell a_t_carried t_isKept t_work t_kind t_letters t_at t_fault t_back t_waits t_miles t_loads t_bestRound t_bestPlace t_bestAdds t_regret o4_t_z (10 : Int32) r5 o5_t_z hq5) (u_X8_drawnBy_X8_draws_273 hts) (ci := 8) rfl 0 rfl rfl (by decide +kernel) [some 0, none, none, none, none] (by decide +kernel) rfl rfl rfl hl.1 rfl (Nat.le_of_ble_eq_true rfl) dX8_drawnBy_53 (fun H locs S => ?_)
      refine lv_istore (pc := 56) (lv' := [(6, .int r5), (5, .int r4), (4, .int r3), (0, .ref a_t), (2, .int x2), (3, .int x3)]) hx hb dX8_drawnBy_56 hl (by decide) rfl (fun ls hl => ?_)
      refine lv_aload_n (pc := 58) hx hb dX8_drawnBy_58 rfl (lv_at hl 3 rfl) ?_
      refine lv_sipush (pc := 59) hx hb dX8_drawnBy_59 sc_400 ?_
      obtain ⟨⟨r6, o6_t_z⟩, hq6, hf⟩ := bd_e hf
      refine x_vI (pc := 62) (As := [.int (400 : Int32)]) (rest := []) (isC := [0]) (ws' := (w_X8_drawnBy G a_t a_t_s a_t_image a_t_mind a_t_aside a_t_text a_t_read a_t_comes a_t_begins a_t_latest a_t_move a_t_sort a_t_items a_t_cell a_t_carried t_isKept t_work t_kind t_letters t_at t_fault t_back t_waits t_miles t_loads t_bestRound t_bestPlace t_bestAdds t_regret o6_t_z t_s t_mind t_comes t_begins)) C S (c_X8_draws l G a_t a_t_s a_t_image a_t_mind a_t_aside a_t_text a_t_read a_t_comes a_t_begins a_t_latest a_t_move a_t_sort a_t_items a_t_cell a_t_carried t_isKept t_work t_kind t_letters t_at t_fault t_back t_waits t_miles t_loads t_bestRound t_bestPlace t_bestAdds t_regret o5_t_z (400 : Int32) r6 o6_t_z hq6) (u_X8_drawnBy_X8_draws_273 hts) (ci := 8) rfl 0 rfl rfl (by decide +kernel) [some 0, none, none, none, none] (by decide +kernel) rfl rfl rfl hl.1 rfl (Nat.le_of_ble_eq_true rfl) dX8_drawnBy_62 (fun H locs S => ?_)
      refine lv_istore (pc := 65) (lv' := [(7, .int r6), (6, .int r5), (5, .int r4), (4, .int r3), (0, .ref a_t), (2, .int x2), (3, .int x3)]) hx hb dX8_drawnBy_65 hl (by decide) rfl (fun ls hl => ?_)
      refine lv_iload (pc := 67) hx hb dX8_drawnBy_67 (lv_at hl 0 rfl) ?_
      refine lv_bipush (pc := 69) hx hb dX8_drawnBy_69 bc_20 ?_
      refine lv_iadd (pc := 71) hx hb dX8_drawnBy_71 ?_
      refine lv_aload_n (pc := 72) hx hb dX8_drawnBy_72 rfl (lv_at hl 4 rfl) ?_
      refine lv_sipush (pc := 73) hx hb dX8_drawnBy_73 sc_200 ?_
      obtain ⟨⟨r7, o7_t_z⟩, hq7, hf⟩ := bd_e hf
      refine x_vI (pc := 76) (As := [.int (200 : Int32)]) (rest := [.int (r6 + (20 : Int32))]) (isC := [0]) (ws' := (w_X8_drawnBy G a_t a_t_s a_t_image a_t_mind a_t_aside a_t_text a_t_read a_t_comes a_t_begins a_t_latest a_t_move a_t_sort a_t_items a_t_cell a_t_carried t_isKept t_work t_kind t_letters t_at t_fault t_back t_waits t_miles t_loads t_bestRound t_bestPlace t_bestAdds t_regret o7_t_z t_s t_mind t_comes t_begins)) C S (c_X8_draws l G a_t a_t_s a_t_image a_t_mind a_t_aside a_t_text a_t_read a_t_comes a_t_begins a_t_latest a_t_move a_t_sort a_t_items a_t_cell a_t_carried t_isKept t_work t_kind t_letters t_at t_fault t_back t_waits t_miles t_loads t_bestRound t_bestPlace t_bestAdds t_regret o6_t_z (200 : Int32) r7 o7_t_z hq7) (u_X8_drawnBy_X8_draws_273 hts) (ci := 8) rfl 0 rfl rfl (by decide +kernel) [some 0, none, none, none, none] (by decide +kernel) rfl rfl rfl hl.1 rfl (Nat.le_of_ble_eq_true rfl) dX8_drawnBy_76 (fun H locs S => ?_)
      refine lv_iadd (pc := 79) hx hb dX8_drawnBy_79 ?_
      refine lv_istore (pc := 80) (lv' := [(8, .int ((r6 + (20 : Int32)) + r7)), (7, .int r6), (6, .int r5), (5, .int r4), (4, .int r3), (0, .ref a_t), (2, .int x2), (3, .int x3)]) hx hb dX8_drawnBy_80 hl (by decide) rfl (fun ls hl => ?_)
      refine lv_aload_n (pc := 82) hx hb dX8_drawnBy_82 rfl (lv_at hl 5 rfl) ?_
      refine lv_iload (pc := 83) hx hb dX8_drawnBy_83 (lv_at hl 4 rfl) ?_
      refine lv_iload (pc := 85) hx hb dX8_drawnBy_85 (lv_at hl 3 rfl) ?_
      refine lv_iload (pc := 87) hx hb dX8_drawnBy_87 (lv_at hl 2 rfl) ?_
      refine lv_iload (pc := 89) hx hb dX8_drawnBy_89 (lv_at hl 1 rfl) ?_
      refine lv_iload (pc := 91) hx hb dX8_drawnBy_91 (lv_at hl 0 rfl) ?_
      refine lv_aload_n (pc := 93) hx hb dX8_drawnBy_93 rfl (lv_at hl 5 rfl) ?_
      refine lv_bipush (pc := 94) hx hb dX8_drawnBy_94 bc_20 ?_
      obtain ⟨⟨r8, o8_t_z⟩, hq8, hf⟩ := bd_e hf
      refine x_vI (pc := 96) (As := [.int (20 : Int32)]) (rest := [.int ((r6 + (20 : Int32)) + r7), .int r6, .int r5, .int r4, .int r3, .ref a_t]) (isC := [0]) (ws' := (w_X8_drawnBy G a_t a_t_s a_t_image a_t_mind a_t_aside a_t_text a_t_read a_t_comes a_t_begins a_t_latest a_t_move a_t_sort a_t_items a_t_cell a_t_carried t_isKept t_work t_kind t_letters t_at t_fault t_back t_waits t_miles t_loads t_bestRound t_bestPlace t_bestAdds t_regret o8_t_z t_s t_mind t_comes t_begins)) C S (c_X8_draws l G a_t a_t_s a_t_image a_t_mind a_t_aside a_t_text a_t_read a_t_comes a_t_begins a_t_latest a_t_move a_t_sort a_t_items a_t_cell a_t_carried t_isKept t_work t_kind t_letters t_at t_fault t_back t_waits t_miles t_loads t_bestRound t_bestPlace t_bestAdds t_regret o7_t_z (20 : Int32) r8 o8_t_z hq8) (u_X8_drawnBy_X8_draws_273 hts) (ci := 8) rfl 0 rfl rfl (by decide +kernel) [some 0, none, none, none, none] (by decide +kernel) rfl rfl rfl hl.1 rfl (Nat.le_of_ble_eq_true rfl) dX8_drawnBy_96 (fun H locs S => ?_)
      obtain ⟨o9_t_s, hq9, hf⟩ := bd_e hf
      refine x_vV (pc := 99) (As := [.int r3, .int r4, .int r5, .int r6, .int ((r6 + (20 : Int32)) + r7), .int r8]) (rest := []) (isC := [0, 1]) (ws' := (w_X8_drawnBy G a_t a_t_s a_t_image a_t_mind a_t_aside a_t_text a_t_read a_t_comes a_t_begins a_t_latest a_t_move a_t_sort a_t_items a_t_cell a_t_carried t_isKept t_work t_kind t_letters t_at t_fault t_back t_waits t_miles t_loads t_bestRound t_bestPlace t_bestAdds t_regret o8_t_z o9_t_s t_mind t_comes t_begins)) C S (c_X8_comes l G a_t a_t_s a_t_image a_t_mind a_t_aside a_t_text a_t_read a_t_comes a_t_begins a_t_latest a_t_move a_t_sort a_t_items a_t_cell a_t_carried t_isKept t_work t_kind t_letters t_at t_fault t_back t_waits t_miles t_loads t_bestRound t_bestPlace t_bestAdds t_regret o8_t_z t_s r3 r4 r5 r6 ((r6 + (20 : Int32)) + r7) r8 o9_t_s hq9) (u_X8_drawnBy_X8_comes_118 hts) (ci := 8) rfl 0 rfl rfl (by decide +kernel) [some 0, some 1, none, none, none] (by decide +kernel) rfl rfl rfl hl.1 rfl (Nat.le_of_ble_eq_true rfl) dX8_drawnBy_99 (fun H locs S => ?_)
      refine lv_iinc (pc := 102) (v := (x3 + (1 : Int32))) (lv' := [(3, .int (x3 + (1 : Int32))), (8, .int ((r6 + (20 : Int32)) + r7)), (7, .int r6), (6, .int r5), (5, .int r4), (4, .int r3), (0, .ref a_t), (2, .int x2)]) hx hb dX8_drawnBy_102 hl (k := 7) rfl (congrArg (fun z => x3 + z) ic_1) (by decide) rfl (fun ls hl => ?_)
      refine lv_goto (tgt := 18) (pc := 105) hx hb dX8_drawnBy_105 (by decide) ?_
      exact hk18 ((x3 + (1 : Int32))) (o9_t_s) (o8_t_z)  hf S (lv_sub hl [6, 7, 0] rfl)
set_option maxRecDepth 100000 in
set_option maxHeartbeats 4000000 in
theorem h_X8_drawnBy_18 (C : Cx p s m args meth c cX8_drawnBy (some .int) 9 RX8 G A) (t_isKept : Int32) (t_work : Int32) (t_kind : Int32) (t_letters : Int32) (t_at : Int32) (t_fault : Int32) (t_back : Int32) (t_waits : Int32) (t_miles : Int32) (t_loads : Int32) (t_bestRound : Int32) (t_bestPlace : Int32) (t_bestAdds : Int32) (t_regret : Int32) (t_mind : Nat → Int32) (t_comes : Nat → Int32) (t_begins : Nat → Int32) (x2 : Int32) : ∀ (n : Nat) (x3 : Int32) (t_s : Nat → Int32) (t_z : Int32) {H : Heap} {locs : List Loc} {ls : Array Slot} (hf : lp (fun k x => b_X8_drawnBy_18 x2 t_mind t_comes t_begins t_back t_waits t_loads t_bestRound t_bestPlace t_bestAdds t_regret k x.1 x.2.1 x.2.2) n (x3, t_s, t_z) = some (r, z_t_s, z_t_mind, z_t_comes, z_t_begins, z_t_back, z_t_waits, z_t_loads, z_t_bestRound, z_t_bestPlace, z_t_bestAdds, z_t_regret, z_t_z)) (S : St G A s.heap H locs (w_X8_drawnBy G a_t a_t_s a_t_image a_t_mind a_t_aside a_t_text a_t_read a_t_comes a_t_begins a_t_latest a_t_move a_t_sort a_t_items a_t_cell a_t_carried t_isKept t_work t_kind t_letters t_at t_fault t_back t_waits t_miles t_loads t_bestRound t_bestPlace t_bestAdds t_regret t_z t_s t_mind t_comes t_begins)) (hl : lv_has ls 9 [(0, .ref a_t), (2, .int x2), (3, .int x3)]), W p l e rm_X8_drawnBy s m args below meth c H locs 0 0 (QI G below args s A r (w_X8_drawnBy G a_t a_t_s a_t_image a_t_mind a_t_aside a_t_text a_t_read a_t_comes a_t_begins a_t_latest a_t_move a_t_sort a_t_items a_t_cell a_t_carried t_isKept t_work t_kind t_letters t_at t_fault z_t_back z_t_waits t_miles z_t_loads z_t_bestRound z_t_bestPlace z_t_bestAdds z_t_regret z_t_z z_t_s z_t_mind z_t_comes z_t_begins)) (F0 m 18 ls []) := by
  intro n
  induction n with
  | zero =>
    intro x3 t_s t_z  H locs ls hf
    cases hf
  | succ n ih =>
    intro x3 t_s t_z  H locs ls hf S hl
    have hf : b_X8_drawnBy_18 x2 t_mind t_comes t_begins t_back t_waits t_loads t_bestRound t_bestPlace t_bestAdds t_regret (lp (fun k x => b_X8_drawnBy_18 x2 t_mind t_comes t_begins t_back t_waits t_loads t_bestRound t_bestPlace t_bestAdds t_regret k x.1 x.2.1 x.2.2) n) x3 t_s t_z = some (r, z_t_s, z_t_mind, z_t_comes, z_t_begins, z_t_back, z_t_waits, z_t_loads, z_t_bestRound, z_t_bestPlace, z_t_bestAdds, z_t_regret, z_t_z) := hf
    exact k_X8_drawnBy_18 C t_isKept t_work t_kind t_letters t_at t_fault t_back t_waits t_miles t_loads t_bestRound t_bestPlace t_bestAdds t_regret t_z t_s t_mind t_comes t_begins x2 x3  (lp (fun k x => b_X8_drawnBy_18 x2 t_mind t_comes t_begins t_back t_waits t_loads t_bestRound t_bestPlace t_bestAdds t_regret k x.1 x.2.1 x.2.2) n) (fun x3' t_s' t_z'  h S hl => ih x3' t_s' t_z'  h S hl) hf S hl
set_option maxRecDepth 100000 in
set_option maxHeartbeats 4000000 in
theorem c_X8_drawnBy (l : Launch) (G : GE) (a_t a_t_s a_t_image a_t_mind a_t_aside a_t_text a_t_read a_t_comes a_t_begins a_t_latest a_t_move a_t_sort a_t_items a_t_cell a_t_carried : Nat) (t_isKept : Int32) (t_work : Int32) (t_kind : Int32) (t_letters : Int32) (t_at : Int32) (t_fault : Int32) (t_back : Int32) (t_waits : Int32) (t_miles : Int32) (t_loads : Int32) (t_bestRound : Int32) (t_bestPlace : Int32) (t_bestAdds : Int32) (t_regret : Int32) (t_z : Int32) (t_s : Nat → Int32) (t_mind : Nat → Int32) (t_comes : Nat → Int32) (t_begins : Nat → Int32) (x1 : Int32) (x2 : Int32) (r : Int32) (z_t_s : Nat → Int32) (z_t_mind : Nat → Int32) (z_t_comes : Nat → Int32) (z_t_begins : Nat → Int32) (z_t_back : Int32) (z_t_waits : Int32) (z_t_loads : Int32) (z_t_bestRound : Int32) (z_t_bestPlace : Int32) (z_t_bestAdds : Int32) (z_t_regret : Int32) (z_t_z : Int32) (hf : f_X8_drawnBy t_s t_mind t_comes t_begins t_back t_waits t_loads t_bestRound t_bestPlace t_bestAdds t_regret x1 x2 = some (r, z_t_s, z_t_mind, z_t_comes, z_t_begins, z_t_back, z_t_waits, z_t_loads, z_t_bestRound, z_t_bestPlace, z_t_bestAdds, z_t_regret, z_t_z)) : CI l G yX8_drawnBy kw_X8_drawnBy rm_X8_drawnBy [.ref a_t, .int x1, .int x2] (w_X8_drawnBy G a_t a_t_s a_t_image a_t_mind a_t_aside a_t_text a_t_read a_t_comes a_t_begins a_t_latest a_t_move a_t_sort a_t_items a_t_cell a_t_carried t_isKept t_work t_kind t_letters t_at t_fault t_back t_waits t_miles t_loads t_bestRound t_bestPlace t_bestAdds t_regret t_z t_s t_mind t_comes t_begins) r (w_X8_drawnBy G a_t a_t_s a_t_image a_t_mind a_t_aside a_t_text a_t_read a_t_comes a_t_begins a_t_latest a_t_move a_t_sort a_t_items a_t_cell a_t_carried t_isKept t_work t_kind t_letters t_at t_fault z_t_back z_t_waits t_miles z_t_loads z_t_bestRound z_t_bestPlace z_t_bestAdds z_t_regret z_t_z z_t_s z_t_mind z_t_comes z_t_begins) := by
  refine en_I (cc := cX8_drawnBy) (maxL := 9) (ret := (some .int)) (by decide +kernel) (Nat.le_of_ble_eq_true rfl) ?_
  intro p e s m args below meth c A ls C S hl
  have hl : lv_has ls 9 [(0, .ref a_t), (1, .int x1), (2, .int x2)] := hl
  have C : Cx p s m args meth c cX8_drawnBy (some .int) 9 RX8 G A := C
  unfold f_X8_drawnBy at hf
  have hx := C.1
  have hb := C.2.1
  have hown := C.2.2.2.2.1
  have hts := C.2.2.2.2.2.1
  have hN := C.2.2.2.2.2.2.2.2.2.2
  refine lv_aload_n (pc := 0) hx hb dX8_drawnBy_0 rfl (lv_at hl 0 rfl) ?_
  refine x_get (pc := 1) (ci := 8) (T := TX8) (v := .ref a_t_s) C S 0 rfl rfl inlX8 0 (by decide) rfl qf_8_11 rfl dX8_drawnBy_1 ?_
  refine lv_aload_n (pc := 4) hx hb dX8_drawnBy_4 rfl (lv_at hl 0 rfl) ?_
  refine x_get (pc := 5) (ci := 8) (T := TX8) (v := .ref a_t_mind) C S 0 rfl rfl inlX8 2 (by decide) rfl qf_8_18 rfl dX8_drawnBy_5 ?_
  obtain ⟨o1_t_mind, hq1, hf⟩ := bd_e hf
  refine x_sV (pc := 8) (As := [.ref a_t_s, .ref a_t_mind]) (rest := []) (isC := [1, 2]) (ws' := (w_X8_drawnBy G a_t a_t_s a_t_image a_t_mind a_t_aside a_t_text a_t_read a_t_comes a_t_begins a_t_latest a_t_move a_t_sort a_t_items a_t_cell a_t_carried t_isKept t_work t_kind t_letters t_at t_fault t_back t_waits t_miles t_loads t_bestRound t_bestPlace t_bestAdds t_regret t_z t_s o1_t_mind t_comes t_begins)) C S (c_X8_copies l G a_t_s a_t_mind 258 258 t_s t_mind o1_t_mind hq1) (u_X8_drawnBy_X8_copies_269 hts) rfl (by decide +kernel) [none, some 0, some 1, none, none] (by decide +kernel) rfl rfl rfl hl.1 rfl (Nat.le_of_ble_eq_true rfl) dX8_drawnBy_8 (fun H locs S => ?_)
  refine lv_aload_n (pc := 11) hx hb dX8_drawnBy_11 rfl (lv_at hl 0 rfl) ?_
  refine lv_iload_n (pc := 12) hx hb dX8_drawnBy_12 rfl (lv_at hl 1 rfl) ?_
  refine x_put (pc := 13) (ci := 8) (T := TX8) (ws' := (w_X8_drawnBy G a_t a_t_s a_t_image a_t_mind a_t_aside a_t_text a_t_read a_t_comes a_t_begins a_t_latest a_t_move a_t_sort a_t_items a_t_cell a_t_carried t_isKept t_work t_kind t_letters t_at t_fault t_back t_waits t_miles t_loads t_bestRound t_bestPlace t_bestAdds t_regret x1 t_s o1_t_mind t_comes t_begins)) C S tyX8 tyX8_ok nmX8 0 rfl rfl inlX8 28 (by decide) rfl qf_8_265 rfl rfl rfl rfl (Nat.le_of_ble_eq_true rfl) rfl dX8_drawnBy_13 (fun H locs S => ?_)
  refine lv_iconst (pc := 16) hx hb dX8_drawnBy_16 ic_0 ?_
  refine lv_istore_n (pc := 17) (lv' := [(3, .int (0 : Int32)), (0, .ref a_t), (1, .int x1), (2, .int x2)]) hx hb dX8_drawnBy_17 rfl hl (by decide) rfl (fun ls hl => ?_)
  exact h_X8_drawnBy_18 C (t_isKept) (t_work) (t_kind) (t_letters) (t_at) (t_fault) (t_back) (t_waits) (t_miles) (t_loads) (t_bestRound) (t_bestPlace) (t_bestAdds) (t_regret) (o1_t_mind) (t_comes) (t_begins) (x2) fu ((0 : Int32)) (t_s) (x1) hf S (lv_sub hl [1, 3, 0] rfl)
end

abbrev rm_X8_part : Room := { frames := 42, cells := 0, slots := 0, locals := 2645 }
abbrev kw_X8_part : Cond := .code yX8_part cX8_part 3 (some .int)
abbrev w_X8_part (G : GE) : va_W := []
theorem u_X8_part_X8_common_257 {s : State} {args : Array Value} (hts : ∀ w ∈ WU, w.before args s = true) : CallB rm_X8_part s args RX8 257 yX8_common cX8_common 2 (some .int) (kw_X8_common :: WU) rm_X8_common 0 0 2 ∧ (Cond.static yX8_common).before args s = true := va_cwS 2 hts (gS qm_8_257 qs_X8_common qn_8 qc_X8_common) rfl rfl rfl (by decide +kernel) ⟨Nat.le_of_ble_eq_true rfl, Nat.le_of_ble_eq_true rfl⟩
section
variable {p : Program} {l : Launch} {e : Env} {s : State} {m : MethodId} {args : Array Value} {below : List Frame} {meth : Method} {c : Code} {A : Nat → Prop} {G : GE} {r : Int32}
set_option maxRecDepth 100000 in
set_option maxHeartbeats 4000000 in
theorem k_X8_part_9 (C : Cx p s m args meth c cX8_part (some .int) 3 RX8 G A) (x0 : Int32) (x1 : Int32) (y0 : Int32) {H : Heap} {locs : List Loc} {ls : Array Slot} (hf : b_X8_part_9 x0 x1 y0 = some r) (S : St G A s.heap H locs (w_X8_part G )) (hl : lv_has ls 3 [(0, .int x0), (1, .int x1)]) : W p l e rm_X8_part s m args below meth c H locs 0 0 (QI G below args s A r (w_X8_part G )) (F0 m 9 ls [.int y0]) := by
  unfold b_X8_part_9 at hf
  have hx := C.1
  have hb := C.2.1
  have hown := C.2.2.2.2.1
  have hts := C.2.2.2.2.2.1
  have hN := C.2.2.2.2.2.2.2.2.2.2
  refine lv_iload_n (pc := 9) hx hb dX8_part_9 rfl (lv_at hl 0 rfl) ?_
  refine lv_iload_n (pc := 10) hx hb dX8_part_10 rfl (lv_at hl 1 rfl) ?_
  obtain ⟨r1, hq1, hf⟩ := bd_e hf
  refine x_sI (pc := 11) (As := [.int x0, .int x1]) (rest := [.int y0]) (isC := []) (ws' := (w_X8_part G )) C S (c_X8_common l G 40 x0 x1 r1 hq1) (u_X8_part_X8_common_257 hts) rfl (by decide +kernel) [] (by decide +kernel) rfl rfl rfl hl.1 rfl (Nat.le_of_ble_eq_true rfl) dX8_part_11 (fun H locs S => ?_)
  obtain ⟨hz2, hf⟩ := gd_e hf
  refine lv_idiv (pc := 14) hx hb dX8_part_14 hz2 ?_
  cases hf
  exact x_iret (pc := 15) C S dX8_part_15
set_option maxRecDepth 100000 in
set_option maxHeartbeats 4000000 in
theorem c_X8_part (l : Launch) (G : GE) (x0 : Int32) (x1 : Int32) (x2 : Int32) (r : Int32) (hf : f_X8_part x0 x1 x2 = some r) : CI l G yX8_part kw_X8_part rm_X8_part [.int x0, .int x1, .int x2] (w_X8_part G ) r (w_X8_part G ) := by
  refine en_I (cc := cX8_part) (maxL := 3) (ret := (some .int)) (by decide +kernel) (Nat.le_of_ble_eq_true rfl) ?_
  intro p e s m args below meth c A ls C S hl
  have hl : lv_has ls 3 [(0, .int x0), (1, .int x1), (2, .int x2)] := hl
  have C : Cx p s m args meth c cX8_part (some .int) 3 RX8 G A := C
  unfold f_X8_part at hf
  have hx := C.1
  have hb := C.2.1
  have hown := C.2.2.2.2.1
  have hts := C.2.2.2.2.2.1
  have hN := C.2.2.2.2.2.2.2.2.2.2
  refine lv_iload_n (pc := 0) hx hb dX8_part_0 rfl (lv_at hl 2 rfl) ?_
  refine lv_if_ne (tgt := 8) (pc := 1) hx hb dX8_part_1 (by decide) (fun c1 => ?_) (fun c1 => ?_)
  · have hf := ifn c1 hf
    refine lv_iload_n (pc := 8) hx hb dX8_part_8 rfl (lv_at hl 1 rfl) ?_
    exact k_X8_part_9 C  (x0) (x1) (x1) hf S (lv_sub hl [0, 1] rfl)
  · have hf := ifp c1 hf
    refine lv_iload_n (pc := 4) hx hb dX8_part_4 rfl (lv_at hl 0 rfl) ?_
    refine lv_goto (tgt := 9) (pc := 5) hx hb dX8_part_5 (by decide) ?_
    exact k_X8_part_9 C  (x0) (x1) (x0) hf S (lv_sub hl [0, 1] rfl)
end

abbrev rm_X8_chance : Room := { frames := 43, cells := 0, slots := 0, locals := 2667 }
abbrev kw_X8_chance : Cond := .code yX8_chance cX8_chance 7 (some .int)
abbrev w_X8_chance (G : GE) (a_t a_t_s a_t_image a_t_mind a_t_aside a_t_text a_t_read a_t_comes a_t_begins a_t_latest a_t_move a_t_sort a_t_items a_t_cell a_t_carried : Nat) (t_isKept : Int32) (t_work : Int32) (t_kind : Int32) (t_letters : Int32) (t_at : Int32) (t_fault : Int32) (t_back : Int32) (t_waits : Int32) (t_miles : Int32) (t_loads : Int32) (t_bestRound : Int32) (t_bestPlace : Int32) (t_bestAdds : Int32) (t_regret : Int32) (t_z : Int32) (t_s : Nat → Int32) (t_mind : Nat → Int32) (t_comes : Nat → Int32) (t_begins : Nat → Int32) : va_W := [(a_t, ob 8 [.ref a_t_s, .ref a_t_image, .ref a_t_mind, .ref a_t_aside, .int t_isKept, .int t_work, .int t_kind, .ref a_t_text, .ref a_t_read, .int t_letters, .int t_at, .int t_fault, .ref a_t_comes, .ref a_t_begins, .ref a_t_latest, .int t_back, .int t_waits, .int t_miles, .int t_loads, .int t_bestRound, .int t_bestPlace, .int t_bestAdds, .int t_regret, .ref a_t_move, .ref a_t_sort, .ref a_t_items, .ref a_t_cell, .ref a_t_carried, .int t_z]), (a_t_s, aI G 258 t_s), (a_t_mind, aI G 258 t_mind), (a_t_comes, aI G 16 t_comes), (a_t_begins, aI G 16 t_begins)]
theorem u_X8_chance_X8_isIn_55 {s : State} {args : Array Value} (hts : ∀ w ∈ WU, w.before args s = true) : CallB rm_X8_chance s args RX8 55 yX8_isIn cX8_isIn 3 (some .boolean) (kw_X8_isIn :: WU) rm_X8_isIn 0 0 3 ∧ (Cond.static yX8_isIn).before args s = true := va_cwS 3 hts (gS qm_8_55 qs_X8_isIn qn_8 qc_X8_isIn) rfl rfl rfl (by decide +kernel) ⟨Nat.le_of_ble_eq_true rfl, Nat.le_of_ble_eq_true rfl⟩
theorem u_X8_chance_X8_works_208 {s : State} {args : Array Value} (hts : ∀ w ∈ WU, w.before args s = true) : CallW rm_X8_chance s args RX8 RX8 208 yX8_works cX8_works 2 (some .boolean) (kw_X8_works :: WU) rm_X8_works 0 0 1 := cwV 1 hts (gV qm_8_208 qi_X8_works ql_X8_works qn_8 qc_X8_works) rfl rfl rfl (by decide +kernel) ⟨Nat.le_of_ble_eq_true rfl, Nat.le_of_ble_eq_true rfl⟩
theorem u_X8_chance_X8_part_262 {s : State} {args : Array Value} (hts : ∀ w ∈ WU, w.before args s = true) : CallB rm_X8_chance s args RX8 262 yX8_part cX8_part 3 (some .int) (kw_X8_part :: WU) rm_X8_part 0 0 3 ∧ (Cond.static yX8_part).before args s = true := va_cwS 3 hts (gS qm_8_262 qs_X8_part qn_8 qc_X8_part) rfl rfl rfl (by decide +kernel) ⟨Nat.le_of_ble_eq_true rfl, Nat.le_of_ble_eq_true rfl⟩
theorem u_X8_chance_X8_drawnBy_276 {s : State} {args : Array Value} (hts : ∀ w ∈ WU, w.before args s = true) : CallW rm_X8_chance s args RX8 RX8 276 yX8_drawnBy cX8_drawnBy 9 (some .int) (kw_X8_drawnBy :: WU) rm_X8_drawnBy 0 0 2 := cwV 2 hts (gV qm_8_276 qi_X8_drawnBy ql_X8_drawnBy qn_8 qc_X8_drawnBy) rfl rfl rfl (by decide +kernel) ⟨Nat.le_of_ble_eq_true rfl, Nat.le_of_ble_eq_true rfl⟩
section
variable {p : Program} {l : Launch} {e : Env} {s : State} {m : MethodId} {args : Array Value} {below : List Frame} {meth : Method} {c : Code} {A : Nat → Prop} {G : GE} {a_t a_t_s a_t_image a_t_mind a_t_aside a_t_text a_t_read a_t_comes a_t_begins a_t_latest a_t_move a_t_sort a_t_items a_t_cell a_t_carried : Nat} {r : Int32} {z_t_s : Nat → Int32} {z_t_mind : Nat → Int32} {z_t_work : Int32} {z_t_comes : Nat → Int32} {z_t_begins : Nat → Int32} {z_t_back : Int32} {z_t_waits : Int32} {z_t_loads : Int32} {z_t_bestRound : Int32} {z_t_bestPlace : Int32} {z_t_bestAdds : Int32} {z_t_regret : Int32} {z_t_z : Int32}
set_option maxRecDepth 100000 in
set_option maxHeartbeats 4000000 in
theorem k_X8_chance_49 (C : Cx p s m args meth c cX8_chance (some .int) 7 RX8 G A) (t_isKept : Int32) (t_work : Int32) (t_kind : Int32) (t_letters : Int32) (t_at : Int32) (t_fault : Int32) (t_back : Int32) (t_waits : Int32) (t_miles : Int32) (t_loads : Int32) (t_bestRound : Int32) (t_bestPlace : Int32) (t_bestAdds : Int32) (t_regret : Int32) (t_z : Int32) (t_s : Nat → Int32) (t_mind : Nat → Int32) (t_comes : Nat → Int32) (t_begins : Nat → Int32) (x1 : Int32) (x2 : Int32) (x3 : Int32) (x4 : Int32) (x5 : Int32) (x6 : Int32) (k49 : Int32 × Int32 × (Nat → Int32) × (Nat → Int32) × (Nat → Int32) × (Nat → Int32) × Int32 × Int32 × Int32 × Int32 × Int32 × Int32 × Int32 × Int32 → Option (Int32 × (Nat → Int32) × (Nat → Int32) × Int32 × (Nat → Int32) × (Nat → Int32) × Int32 × Int32 × Int32 × Int32 × Int32 × Int32 × Int32 × Int32)) (hk49 : ∀ {H : Heap} {locs : List Loc} {ls : Array Slot} (x5' : Int32) (x6' : Int32) (t_s' : Nat → Int32) (t_mind' : Nat → Int32) (t_comes' : Nat → Int32) (t_begins' : Nat → Int32) (t_back' : Int32) (t_waits' : Int32) (t_loads' : Int32) (t_bestRound' : Int32) (t_bestPlace' : Int32) (t_bestAdds' : Int32) (t_regret' : Int32) (t_z' : Int32), k49 (x5', x6', t_s', t_mind', t_comes', t_begins', t_back', t_waits', t_loads', t_bestRound', t_bestPlace', t_bestAdds', t_regret', t_z') = some (r, z_t_s, z_t_mind, z_t_work, z_t_comes, z_t_begins, z_t_back, z_t_waits, z_t_loads, z_t_bestRound, z_t_bestPlace, z_t_bestAdds, z_t_regret, z_t_z) → St G A s.heap H locs (w_X8_chance G a_t a_t_s a_t_image a_t_mind a_t_aside a_t_text a_t_read a_t_comes a_t_begins a_t_latest a_t_move a_t_sort a_t_items a_t_cell a_t_carried t_isKept t_work t_kind t_letters t_at t_fault t_back' t_waits' t_miles t_loads' t_bestRound' t_bestPlace' t_bestAdds' t_regret' t_z' t_s' t_mind' t_comes' t_begins') → lv_has ls 7 [(0, .ref a_t), (1, .int x1), (2, .int x2), (3, .int x3), (4, .int x4), (5, .int x5'), (6, .int x6')] → W p l e rm_X8_chance s m args below meth c H locs 0 0 (QI G below args s A r (w_X8_chance G a_t a_t_s a_t_image a_t_mind a_t_aside a_t_text a_t_read a_t_comes a_t_begins a_t_latest a_t_move a_t_sort a_t_items a_t_cell a_t_carried t_isKept z_t_work t_kind t_letters t_at t_fault z_t_back z_t_waits t_miles z_t_loads z_t_bestRound z_t_bestPlace z_t_bestAdds z_t_regret z_t_z z_t_s z_t_mind z_t_comes z_t_begins)) (F0 m 49 ls [])) {H : Heap} {locs : List Loc} {ls : Array Slot} (hf : b_X8_chance_49 x1 x2 x3 x4 t_work k49 x5 x6 t_s t_mind t_comes t_begins t_back t_waits t_loads t_bestRound t_bestPlace t_bestAdds t_regret t_z = some (r, z_t_s, z_t_mind, z_t_work, z_t_comes, z_t_begins, z_t_back, z_t_waits, z_t_loads, z_t_bestRound, z_t_bestPlace, z_t_bestAdds, z_t_regret, z_t_z)) (S : St G A s.heap H locs (w_X8_chance G a_t a_t_s a_t_image a_t_mind a_t_aside a_t_text a_t_read a_t_comes a_t_begins a_t_latest a_t_move a_t_sort a_t_items a_t_cell a_t_carried t_isKept t_work t_kind t_letters t_at t_fault t_back t_waits t_miles t_loads t_bestRound t_bestPlace t_bestAdds t_regret t_z t_s t_mind t_comes t_begins)) (hl : lv_has ls 7 [(0, .ref a_t), (1, .int x1), (2, .int x2), (3, .int x3), (4, .int x4), (5, .int x5), (6, .int x6)]) : W p l e rm_X8_chance s m args below meth c H locs 0 0 (QI G below args s A r (w_X8_chance G a_t a_t_s a_t_image a_t_mind a_t_aside a_t_text a_t_read a_t_comes a_t_begins a_t_latest a_t_move a_t_sort a_t_items a_t_cell a_t_carried t_isKept z_t_work t_kind t_letters t_at t_fault z_t_back z_t_waits t_miles z_t_loads z_t_bestRound z_t_bestPlace z_t_bestAdds z_t_regret z_t_z z_t_s z_t_mind z_t_comes z_t_begins)) (F0 m 49 ls []) := by
  unfold b_X8_chance_49 at hf
  have hx := C.1
  have hb := C.2.1
  have hown := C.2.2.2.2.1
  have hts := C.2.2.2.2.2.1
  have hN := C.2.2.2.2.2.2.2.2.2.2
  refine lv_iload (pc := 49) hx hb dX8_chance_49 (lv_at hl 6 rfl) ?_
  refine lv_iload_n (pc := 51) hx hb dX8_chance_51 rfl (lv_at hl 3 rfl) ?_
  refine lv_icmp_ge (tgt := 83) (pc := 52) hx hb dX8_chance_52 (by decide) (fun c1 => ?_) (fun c1 => ?_)
  · have hf := ifp c1 hf
    refine lv_iload (pc := 83) hx hb dX8_chance_83 (lv_at hl 5 rfl) ?_
    refine lv_iload_n (pc := 85) hx hb dX8_chance_85 rfl (lv_at hl 3 rfl) ?_
    refine lv_iload (pc := 86) hx hb dX8_chance_86 (lv_at hl 4 rfl) ?_
    obtain ⟨r2, hq2, hf⟩ := bd_e hf
    refine x_sI (pc := 88) (As := [.int x5, .int x3, .int x4]) (rest := []) (isC := []) (ws' := (w_X8_chance G a_t a_t_s a_t_image a_t_mind a_t_aside a_t_text a_t_read a_t_comes a_t_begins a_t_latest a_t_move a_t_sort a_t_items a_t_cell a_t_carried t_isKept t_work t_kind t_letters t_at t_fault t_back t_waits t_miles t_loads t_bestRound t_bestPlace t_bestAdds t_regret t_z t_s t_mind t_comes t_begins)) C S (c_X8_part l G x5 x3 x4 r2 hq2) (u_X8_chance_X8_part_262 hts) rfl (by decide +kernel) [none, none, none, none, none] (by decide +kernel) rfl rfl rfl hl.1 rfl (Nat.le_of_ble_eq_true rfl) dX8_chance_88 (fun H locs S => ?_)
    cases hf
    exact x_iret (pc := 91) C S dX8_chance_91
  · have hf := ifn c1 hf
    refine lv_iload (pc := 55) hx hb dX8_chance_55 (lv_at hl 5 rfl) ?_
    refine lv_aload_n (pc := 57) hx hb dX8_chance_57 rfl (lv_at hl 0 rfl) ?_
    refine lv_iload_n (pc := 58) hx hb dX8_chance_58 rfl (lv_at hl 1 rfl) ?_
    refine lv_iload (pc := 59) hx hb dX8_chance_59 (lv_at hl 6 rfl) ?_
    refine lv_iadd (pc := 61) hx hb dX8_chance_61 ?_
    refine lv_iload_n (pc := 62) hx hb dX8_chance_62 rfl (lv_at hl 2 rfl) ?_
    obtain ⟨⟨r3, o3_t_s, o3_t_mind, o3_t_comes, o3_t_begins, o3_t_back, o3_t_waits, o3_t_loads, o3_t_bestRound, o3_t_bestPlace, o3_t_bestAdds, o3_t_regret, o3_t_z⟩, hq3, hf⟩ := bd_e hf
    refine x_vI (pc := 63) (As := [.int (x1 + x6), .int x2]) (rest := [.int x5]) (isC := [0, 1, 2, 3, 4]) (ws' := (w_X8_chance G a_t a_t_s a_t_image a_t_mind a_t_aside a_t_text a_t_read a_t_comes a_t_begins a_t_latest a_t_move a_t_sort a_t_items a_t_cell a_t_carried t_isKept t_work t_kind t_letters t_at t_fault o3_t_back o3_t_waits t_miles o3_t_loads o3_t_bestRound o3_t_bestPlace o3_t_bestAdds o3_t_regret o3_t_z o3_t_s o3_t_mind o3_t_comes o3_t_begins)) C S (c_X8_drawnBy l G a_t a_t_s a_t_image a_t_mind a_t_aside a_t_text a_t_read a_t_comes a_t_begins a_t_latest a_t_move a_t_sort a_t_items a_t_cell a_t_carried t_isKept t_work t_kind t_letters t_at t_fault t_back t_waits t_miles t_loads t_bestRound t_bestPlace t_bestAdds t_regret t_z t_s t_mind t_comes t_begins (x1 + x6) x2 r3 o3_t_s o3_t_mind o3_t_comes o3_t_begins o3_t_back o3_t_waits o3_t_loads o3_t_bestRound o3_t_bestPlace o3_t_bestAdds o3_t_regret o3_t_z hq3) (u_X8_chance_X8_drawnBy_276 hts) (ci := 8) rfl 0 rfl rfl (by decide +kernel) [some 0, some 1, some 2, some 3, some 4] (by decide +kernel) rfl rfl rfl hl.1 rfl (Nat.le_of_ble_eq_true rfl) dX8_chance_63 (fun H locs S => ?_)
    refine lv_if_ne (tgt := 73) (pc := 66) hx hb dX8_chance_66 (by decide) (fun c4 => ?_) (fun c4 => ?_)
    · have hf := ifn c4 hf
      refine lv_iconst (pc := 73) hx hb dX8_chance_73 ic_0 ?_
      refine lv_iadd (pc := 74) hx hb dX8_chance_74 ?_
      refine lv_istore (pc := 75) (lv' := [(5, .int (x5 + (0 : Int32))), (0, .ref a_t), (1, .int x1), (2, .int x2), (3, .int x3), (4, .int x4), (6, .int x6)]) hx hb dX8_chance_75 hl (by decide) rfl (fun ls hl => ?_)
      refine lv_iinc (pc := 77) (v := (x6 + (1 : Int32))) (lv' := [(6, .int (x6 + (1 : Int32))), (5, .int (x5 + (0 : Int32))), (0, .ref a_t), (1, .int x1), (2, .int x2), (3, .int x3), (4, .int x4)]) hx hb dX8_chance_77 hl (k := 6) rfl (congrArg (fun z => x6 + z) ic_1) (by decide) rfl (fun ls hl => ?_)
      refine lv_goto (tgt := 49) (pc := 80) hx hb dX8_chance_80 (by decide) ?_
      exact hk49 ((x5 + (0 : Int32))) ((x6 + (1 : Int32))) (o3_t_s) (o3_t_mind) (o3_t_comes) (o3_t_begins) (o3_t_back) (o3_t_waits) (o3_t_loads) (o3_t_bestRound) (o3_t_bestPlace) (o3_t_bestAdds) (o3_t_regret) (o3_t_z)  hf S (lv_sub hl [2, 3, 4, 5, 6, 1, 0] rfl)
    · have hf := ifp c4 hf
      refine lv_iconst (pc := 69) hx hb dX8_chance_69 ic_1 ?_
      refine lv_goto (tgt := 74) (pc := 70) hx hb dX8_chance_70 (by decide) ?_
      refine lv_iadd (pc := 74) hx hb dX8_chance_74 ?_
      refine lv_istore (pc := 75) (lv' := [(5, .int (x5 + (1 : Int32))), (0, .ref a_t), (1, .int x1), (2, .int x2), (3, .int x3), (4, .int x4), (6, .int x6)]) hx hb dX8_chance_75 hl (by decide) rfl (fun ls hl => ?_)
      refine lv_iinc (pc := 77) (v := (x6 + (1 : Int32))) (lv' := [(6, .int (x6 + (1 : Int32))), (5, .int (x5 + (1 : Int32))), (0, .ref a_t), (1, .int x1), (2, .int x2), (3, .int x3), (4, .int x4)]) hx hb dX8_chance_77 hl (k := 6) rfl (congrArg (fun z => x6 + z) ic_1) (by decide) rfl (fun ls hl => ?_)
      refine lv_goto (tgt := 49) (pc := 80) hx hb dX8_chance_80 (by decide) ?_
      exact hk49 ((x5 + (1 : Int32))) ((x6 + (1 : Int32))) (o3_t_s) (o3_t_mind) (o3_t_comes) (o3_t_begins) (o3_t_back) (o3_t_waits) (o3_t_loads) (o3_t_bestRound) (o3_t_bestPlace) (o3_t_bestAdds) (o3_t_regret) (o3_t_z)  hf S (lv_sub hl [2, 3, 4, 5, 6, 1, 0] rfl)
set_option maxRecDepth 100000 in
set_option maxHeartbeats 4000000 in
theorem h_X8_chance_49 (C : Cx p s m args meth c cX8_chance (some .int) 7 RX8 G A) (t_isKept : Int32) (t_work : Int32) (t_kind : Int32) (t_letters : Int32) (t_at : Int32) (t_fault : Int32) (t_miles : Int32) (x1 : Int32) (x2 : Int32) (x3 : Int32) (x4 : Int32) : ∀ (n : Nat) (x5 : Int32) (x6 : Int32) (t_s : Nat → Int32) (t_mind : Nat → Int32) (t_comes : Nat → Int32) (t_begins : Nat → Int32) (t_back : Int32) (t_waits : Int32) (t_loads : Int32) (t_bestRound : Int32) (t_bestPlace : Int32) (t_bestAdds : Int32) (t_regret : Int32) (t_z : Int32) {H : Heap} {locs : List Loc} {ls : Array Slot} (hf : lp (fun k x => b_X8_chance_49 x1 x2 x3 x4 t_work k x.1 x.2.1 x.2.2.1 x.2.2.2.1 x.2.2.2.2.1 x.2.2.2.2.2.1 x.2.2.2.2.2.2.1 x.2.2.2.2.2.2.2.1 x.2.2.2.2.2.2.2.2.1 x.2.2.2.2.2.2.2.2.2.1 x.2.2.2.2.2.2.2.2.2.2.1 x.2.2.2.2.2.2.2.2.2.2.2.1 x.2.2.2.2.2.2.2.2.2.2.2.2.1 x.2.2.2.2.2.2.2.2.2.2.2.2.2) n (x5, x6, t_s, t_mind, t_comes, t_begins, t_back, t_waits, t_loads, t_bestRound, t_bestPlace, t_bestAdds, t_regret, t_z) = some (r, z_t_s, z_t_mind, z_t_work, z_t_comes, z_t_begins, z_t_back, z_t_waits, z_t_loads, z_t_bestRound, z_t_bestPlace, z_t_bestAdds, z_t_regret, z_t_z)) (S : St G A s.heap H locs (w_X8_chance G a_t a_t_s a_t_image a_t_mind a_t_aside a_t_text a_t_read a_t_comes a_t_begins a_t_latest a_t_move a_t_sort a_t_items a_t_cell a_t_carried t_isKept t_work t_kind t_letters t_at t_fault t_back t_waits t_miles t_loads t_bestRound t_bestPlace t_bestAdds t_regret t_z t_s t_mind t_comes t_begins)) (hl : lv_has ls 7 [(0, .ref a_t), (1, .int x1), (2, .int x2), (3, .int x3), (4, .int x4), (5, .int x5), (6, .int x6)]), W p l e rm_X8_chance s m args below meth c H locs 0 0 (QI G below args s A r (w_X8_chance G a_t a_t_s a_t_image a_t_mind a_t_aside a_t_text a_t_read a_t_comes a_t_begins a_t_latest a_t_move a_t_sort a_t_items a_t_cell a_t_carried t_isKept z_t_work t_kind t_letters t_at t_fault z_t_back z_t_waits t_miles z_t_loads z_t_bestRound z_t_bestPlace z_t_bestAdds z_t_regret z_t_z z_t_s z_t_mind z_t_comes z_t_begins)) (F0 m 49 ls []) := by
  intro n
  induction n with
  | zero =>
    intro x5 x6 t_s t_mind t_comes t_begins t_back t_waits t_loads t_bestRound t_bestPlace t_bestAdds t_regret t_z  H locs ls hf
    cases hf
  | succ n ih =>
    intro x5 x6 t_s t_mind t_comes t_begins t_back t_waits t_loads t_bestRound t_bestPlace t_bestAdds t_regret t_z  H locs ls hf S hl
    have hf : b_X8_chance_49 x1 x2 x3 x4 t_work (lp (fun k x => b_X8_chance_49 x1 x2 x3 x4 t_work k x.1 x.2.1 x.2.2.1 x.2.2.2.1 x.2.2.2.2.1 x.2.2.2.2.2.1 x.2.2.2.2.2.2.1 x.2.2.2.2.2.2.2.1 x.2.2.2.2.2.2.2.2.1 x.2.2.2.2.2.2.2.2.2.1 x.2.2.2.2.2.2.2.2.2.2.1 x.2.2.2.2.2.2.2.2.2.2.2.1 x.2.2.2.2.2.2.2.2.2.2.2.2.1 x.2.2.2.2.2.2.2.2.2.2.2.2.2) n) x5 x6 t_s t_mind t_comes t_begins t_back t_waits t_loads t_bestRound t_bestPlace t_bestAdds t_regret t_z = some (r, z_t_s, z_t_mind, z_t_work, z_t_comes, z_t_begins, z_t_back, z_t_waits, z_t_loads, z_t_bestRound, z_t_bestPlace, z_t_bestAdds, z_t_regret, z_t_z) := hf
    exact k_X8_chance_49 C t_isKept t_work t_kind t_letters t_at t_fault t_back t_waits t_miles t_loads t_bestRound t_bestPlace t_bestAdds t_regret t_z t_s t_mind t_comes t_begins x1 x2 x3 x4 x5 x6  (lp (fun k x => b_X8_chance_49 x1 x2 x3 x4 t_work k x.1 x.2.1 x.2.2.1 x.2.2.2.1 x.2.2.2.2.1 x.2.2.2.2.2.1 x.2.2.2.2.2.2.1 x.2.2.2.2.2.2.2.1 x.2.2.2.2.2.2.2.2.1 x.2.2.2.2.2.2.2.2.2.1 x.2.2.2.2.2.2.2.2.2.2.1 x.2.2.2.2.2.2.2.2.2.2.2.1 x.2.2.2.2.2.2.2.2.2.2.2.2.1 x.2.2.2.2.2.2.2.2.2.2.2.2.2) n) (fun x5' x6' t_s' t_mind' t_comes' t_begins' t_back' t_waits' t_loads' t_bestRound' t_bestPlace' t_bestAdds' t_regret' t_z'  h S hl => ih x5' x6' t_s' t_mind' t_comes' t_begins' t_back' t_waits' t_loads' t_bestRound' t_bestPlace' t_bestAdds' t_regret' t_z'  h S hl) hf S hl
set_option maxRecDepth 100000 in
set_option maxHeartbeats 4000000 in
theorem c_X8_chance (l : Launch) (G : GE) (a_t a_t_s a_t_image a_t_mind a_t_aside a_t_text a_t_read a_t_comes a_t_begins a_t_latest a_t_move a_t_sort a_t_items a_t_cell a_t_carried : Nat) (t_isKept : Int32) (t_work : Int32) (t_kind : Int32) (t_letters : Int32) (t_at : Int32) (t_fault : Int32) (t_back : Int32) (t_waits : Int32) (t_miles : Int32) (t_loads : Int32) (t_bestRound : Int32) (t_bestPlace : Int32) (t_bestAdds : Int32) (t_regret : Int32) (t_z : Int32) (t_s : Nat → Int32) (t_mind : Nat → Int32) (t_comes : Nat → Int32) (t_begins : Nat → Int32) (x1 : Int32) (x2 : Int32) (x3 : Int32) (x4 : Int32) (r : Int32) (z_t_s : Nat → Int32) (z_t_mind : Nat → Int32) (z_t_work : Int32) (z_t_comes : Nat → Int32) (z_t_begins : Nat → Int32) (z_t_back : Int32) (z_t_waits : Int32) (z_t_loads : Int32) (z_t_bestRound : Int32) (z_t_bestPlace : Int32) (z_t_bestAdds : Int32) (z_t_regret : Int32) (z_t_z : Int32) (hf : f_X8_chance t_s t_mind t_work t_comes t_begins t_back t_waits t_loads t_bestRound t_bestPlace t_bestAdds t_regret t_z x1 x2 x3 x4 = some (r, z_t_s, z_t_mind, z_t_work, z_t_comes, z_t_begins, z_t_back, z_t_waits, z_t_loads, z_t_bestRound, z_t_bestPlace, z_t_bestAdds, z_t_regret, z_t_z)) : CI l G yX8_chance kw_X8_chance rm_X8_chance [.ref a_t, .int x1, .int x2, .int x3, .int x4] (w_X8_chance G a_t a_t_s a_t_image a_t_mind a_t_aside a_t_text a_t_read a_t_comes a_t_begins a_t_latest a_t_move a_t_sort a_t_items a_t_cell a_t_carried t_isKept t_work t_kind t_letters t_at t_fault t_back t_waits t_miles t_loads t_bestRound t_bestPlace t_bestAdds t_regret t_z t_s t_mind t_comes t_begins) r (w_X8_chance G a_t a_t_s a_t_image a_t_mind a_t_aside a_t_text a_t_read a_t_comes a_t_begins a_t_latest a_t_move a_t_sort a_t_items a_t_cell a_t_carried t_isKept z_t_work t_kind t_letters t_at t_fault z_t_back z_t_waits t_miles z_t_loads z_t_bestRound z_t_bestPlace z_t_bestAdds z_t_regret z_t_z z_t_s z_t_mind z_t_comes z_t_begins) := by
  refine en_I (cc := cX8_chance) (maxL := 7) (ret := (some .int)) (by decide +kernel) (Nat.le_of_ble_eq_true rfl) ?_
  intro p e s m args below meth c A ls C S hl
  have hl : lv_has ls 7 [(0, .ref a_t), (1, .int x1), (2, .int x2), (3, .int x3), (4, .int x4)] := hl
  have C : Cx p s m args meth c cX8_chance (some .int) 7 RX8 G A := C
  unfold f_X8_chance at hf
  have hx := C.1
  have hb := C.2.1
  have hown := C.2.2.2.2.1
  have hts := C.2.2.2.2.2.1
  have hN := C.2.2.2.2.2.2.2.2.2.2
  refine lv_iload_n (pc := 0) hx hb dX8_chance_0 rfl (lv_at hl 2 rfl) ?_
  refine lv_iconst (pc := 1) hx hb dX8_chance_1 ic_0 ?_
  refine lv_bipush (pc := 2) hx hb dX8_chance_2 bc_8 ?_
  obtain ⟨r1, hq1, hf⟩ := bd_e hf
  refine x_sI (pc := 4) (As := [.int x2, .int (0 : Int32), .int (8 : Int32)]) (rest := []) (isC := []) (ws' := (w_X8_chance G a_t a_t_s a_t_image a_t_mind a_t_aside a_t_text a_t_read a_t_comes a_t_begins a_t_latest a_t_move a_t_sort a_t_items a_t_cell a_t_carried t_isKept t_work t_kind t_letters t_at t_fault t_back t_waits t_miles t_loads t_bestRound t_bestPlace t_bestAdds t_regret t_z t_s t_mind t_comes t_begins)) C S (c_X8_isIn l G x2 (0 : Int32) (8 : Int32) r1 hq1) (u_X8_chance_X8_isIn_55 hts) rfl (by decide +kernel) [none, none, none, none, none] (by decide +kernel) rfl rfl rfl hl.1 rfl (Nat.le_of_ble_eq_true rfl) dX8_chance_4 (fun H locs S => ?_)
  refine lv_if_eq (tgt := 29) (pc := 7) hx hb dX8_chance_7 (by decide) (fun c2 => ?_) (fun c2 => ?_)
  · have hf := ifp c2 hf
    refine lv_bipush (pc := 29) hx hb dX8_chance_29 bc_m2 ?_
    cases hf
    exact x_iret (pc := 31) C S dX8_chance_31
  · have hf := ifn c2 hf
    refine lv_iload_n (pc := 10) hx hb dX8_chance_10 rfl (lv_at hl 3 rfl) ?_
    refine lv_iconst (pc := 11) hx hb dX8_chance_11 ic_1 ?_
    refine lv_iconst (pc := 12) hx hb dX8_chance_12 ic_4 ?_
    obtain ⟨r3, hq3, hf⟩ := bd_e hf
    refine x_sI (pc := 13) (As := [.int x3, .int (1 : Int32), .int (4 : Int32)]) (rest := []) (isC := []) (ws' := (w_X8_chance G a_t a_t_s a_t_image a_t_mind a_t_aside a_t_text a_t_read a_t_comes a_t_begins a_t_latest a_t_move a_t_sort a_t_items a_t_cell a_t_carried t_isKept t_work t_kind t_letters t_at t_fault t_back t_waits t_miles t_loads t_bestRound t_bestPlace t_bestAdds t_regret t_z t_s t_mind t_comes t_begins)) C S (c_X8_isIn l G x3 (1 : Int32) (4 : Int32) r3 hq3) (u_X8_chance_X8_isIn_55 hts) rfl (by decide +kernel) [none, none, none, none, none] (by decide +kernel) rfl rfl rfl hl.1 rfl (Nat.le_of_ble_eq_true rfl) dX8_chance_13 (fun H locs S => ?_)
    refine lv_if_eq (tgt := 29) (pc := 16) hx hb dX8_chance_16 (by decide) (fun c4 => ?_) (fun c4 => ?_)
    · have hf := ifp c4 hf
      refine lv_bipush (pc := 29) hx hb dX8_chance_29 bc_m2 ?_
      cases hf
      exact x_iret (pc := 31) C S dX8_chance_31
    · have hf := ifn c4 hf
      refine lv_iload (pc := 19) hx hb dX8_chance_19 (lv_at hl 4 rfl) ?_
      refine lv_iconst (pc := 21) hx hb dX8_chance_21 ic_0 ?_
      refine lv_iconst (pc := 22) hx hb dX8_chance_22 ic_1 ?_
      obtain ⟨r5, hq5, hf⟩ := bd_e hf
      refine x_sI (pc := 23) (As := [.int x4, .int (0 : Int32), .int (1 : Int32)]) (rest := []) (isC := []) (ws' := (w_X8_chance G a_t a_t_s a_t_image a_t_mind a_t_aside a_t_text a_t_read a_t_comes a_t_begins a_t_latest a_t_move a_t_sort a_t_items a_t_cell a_t_carried t_isKept t_work t_kind t_letters t_at t_fault t_back t_waits t_miles t_loads t_bestRound t_bestPlace t_bestAdds t_regret t_z t_s t_mind t_comes t_begins)) C S (c_X8_isIn l G x4 (0 : Int32) (1 : Int32) r5 hq5) (u_X8_chance_X8_isIn_55 hts) rfl (by decide +kernel) [none, none, none, none, none] (by decide +kernel) rfl rfl rfl hl.1 rfl (Nat.le_of_ble_eq_true rfl) dX8_chance_23 (fun H locs S => ?_)
      refine lv_if_ne (tgt := 32) (pc := 26) hx hb dX8_chance_26 (by decide) (fun c6 => ?_) (fun c6 => ?_)
      · have hf := ifn c6 hf
        refine lv_aload_n (pc := 32) hx hb dX8_chance_32 rfl (lv_at hl 0 rfl) ?_
        refine lv_iload_n (pc := 33) hx hb dX8_chance_33 rfl (lv_at hl 3 rfl) ?_
        obtain ⟨⟨r7, o7_t_work⟩, hq7, hf⟩ := bd_e hf
        refine x_vI (pc := 34) (As := [.int x3]) (rest := []) (isC := [0]) (ws' := (w_X8_chance G a_t a_t_s a_t_image a_t_mind a_t_aside a_t_text a_t_read a_t_comes a_t_begins a_t_latest a_t_move a_t_sort a_t_items a_t_cell a_t_carried t_isKept o7_t_work t_kind t_letters t_at t_fault t_back t_waits t_miles t_loads t_bestRound t_bestPlace t_bestAdds t_regret t_z t_s t_mind t_comes t_begins)) C S (c_X8_works l G a_t a_t_s a_t_image a_t_mind a_t_aside a_t_text a_t_read a_t_comes a_t_begins a_t_latest a_t_move a_t_sort a_t_items a_t_cell a_t_carried t_isKept t_work t_kind t_letters t_at t_fault t_back t_waits t_miles t_loads t_bestRound t_bestPlace t_bestAdds t_regret t_z x3 r7 o7_t_work hq7) (u_X8_chance_X8_works_208 hts) (ci := 8) rfl 0 rfl rfl (by decide +kernel) [some 0, none, none, none, none] (by decide +kernel) rfl rfl rfl hl.1 rfl (Nat.le_of_ble_eq_true rfl) dX8_chance_34 (fun H locs S => ?_)
        refine lv_if_ne (tgt := 43) (pc := 37) hx hb dX8_chance_37 (by decide) (fun c8 => ?_) (fun c8 => ?_)
        · have hf := ifn c8 hf
          refine lv_iconst (pc := 43) hx hb dX8_chance_43 ic_0 ?_
          refine lv_istore (pc := 44) (lv' := [(5, .int (0 : Int32)), (0, .ref a_t), (1, .int x1), (2, .int x2), (3, .int x3), (4, .int x4)]) hx hb dX8_chance_44 hl (by decide) rfl (fun ls hl => ?_)
          refine lv_iconst (pc := 46) hx hb dX8_chance_46 ic_0 ?_
          refine lv_istore (pc := 47) (lv' := [(6, .int (0 : Int32)), (5, .int (0 : Int32)), (0, .ref a_t), (1, .int x1), (2, .int x2), (3, .int x3), (4, .int x4)]) hx hb dX8_chance_47 hl (by decide) rfl (fun ls hl => ?_)
          exact h_X8_chance_49 C (t_isKept) (o7_t_work) (t_kind) (t_letters) (t_at) (t_fault) (t_miles) (x1) (x2) (x3) (x4) fu ((0 : Int32)) ((0 : Int32)) (t_s) (t_mind) (t_comes) (t_begins) (t_back) (t_waits) (t_loads) (t_bestRound) (t_bestPlace) (t_bestAdds) (t_regret) (t_z) hf S (lv_sub hl [2, 3, 4, 5, 6, 1, 0] rfl)
        · have hf := ifp c8 hf
          refine lv_bipush (pc := 40) hx hb dX8_chance_40 bc_m4 ?_
          cases hf
          exact x_iret (pc := 42) C S dX8_chance_42
      · have hf := ifp c6 hf
        refine lv_bipush (pc := 29) hx hb dX8_chance_29 bc_m2 ?_
        cases hf
        exact x_iret (pc := 31) C S dX8_chance_31
end

abbrev rm_X8_cheapest : Room := { frames := 8, cells := 0, slots := 0, locals := 194 }
abbrev kw_X8_cheapest : Cond := .code yX8_cheapest cX8_cheapest 5 (some .int)
abbrev w_X8_cheapest (G : GE) (a_t a_t_s a_t_image a_t_mind a_t_aside a_t_text a_t_read a_t_comes a_t_begins a_t_latest a_t_move a_t_sort a_t_items a_t_cell a_t_carried : Nat) (t_isKept : Int32) (t_work : Int32) (t_kind : Int32) (t_letters : Int32) (t_at : Int32) (t_fault : Int32) (t_back : Int32) (t_waits : Int32) (t_miles : Int32) (t_loads : Int32) (t_bestRound : Int32) (t_bestPlace : Int32) (t_bestAdds : Int32) (t_regret : Int32) (t_z : Int32) (t_s : Nat → Int32) (t_comes : Nat → Int32) (t_begins : Nat → Int32) : va_W := [(a_t, ob 8 [.ref a_t_s, .ref a_t_image, .ref a_t_mind, .ref a_t_aside, .int t_isKept, .int t_work, .int t_kind, .ref a_t_text, .ref a_t_read, .int t_letters, .int t_at, .int t_fault, .ref a_t_comes, .ref a_t_begins, .ref a_t_latest, .int t_back, .int t_waits, .int t_miles, .int t_loads, .int t_bestRound, .int t_bestPlace, .int t_bestAdds, .int t_regret, .ref a_t_move, .ref a_t_sort, .ref a_t_items, .ref a_t_cell, .ref a_t_carried, .int t_z]), (a_t_s, aI G 258 t_s), (a_t_comes, aI G 16 t_comes), (a_t_begins, aI G 16 t_begins)]
theorem u_X8_cheapest_X8_isStop_151 {s : State} {args : Array Value} (hts : ∀ w ∈ WU, w.before args s = true) : CallW rm_X8_cheapest s args RX8 RX8 151 yX8_isStop cX8_isStop 2 (some .boolean) (kw_X8_isStop :: WU) rm_X8_isStop 0 0 1 := cwV 1 hts (gV qm_8_151 qi_X8_isStop ql_X8_isStop qn_8 qc_X8_isStop) rfl rfl rfl (by decide +kernel) ⟨Nat.le_of_ble_eq_true rfl, Nat.le_of_ble_eq_true rfl⟩
theorem u_X8_cheapest_X8_isIn_55 {s : State} {args : Array Value} (hts : ∀ w ∈ WU, w.before args s = true) : CallB rm_X8_cheapest s args RX8 55 yX8_isIn cX8_isIn 3 (some .boolean) (kw_X8_isIn :: WU) rm_X8_isIn 0 0 3 ∧ (Cond.static yX8_isIn).before args s = true := va_cwS 3 hts (gS qm_8_55 qs_X8_isIn qn_8 qc_X8_isIn) rfl rfl rfl (by decide +kernel) ⟨Nat.le_of_ble_eq_true rfl, Nat.le_of_ble_eq_true rfl⟩
theorem u_X8_cheapest_X8_roundOf_157 {s : State} {args : Array Value} (hts : ∀ w ∈ WU, w.before args s = true) : CallW rm_X8_cheapest s args RX8 RX8 157 yX8_roundOf cX8_roundOf 3 (some .int) (kw_X8_roundOf :: WU) rm_X8_roundOf 0 0 1 := cwV 1 hts (gV qm_8_157 qi_X8_roundOf ql_X8_roundOf qn_8 qc_X8_roundOf) rfl rfl rfl (by decide +kernel) ⟨Nat.le_of_ble_eq_true rfl, Nat.le_of_ble_eq_true rfl⟩
theorem u_X8_cheapest_X8_cheapestOf_196 {s : State} {args : Array Value} (hts : ∀ w ∈ WU, w.before args s = true) : CallW rm_X8_cheapest s args RX8 RX8 196 yX8_cheapestOf cX8_cheapestOf 5 (some .boolean) (kw_X8_cheapestOf :: WU) rm_X8_cheapestOf 0 0 2 := cwV 2 hts (gV qm_8_196 qi_X8_cheapestOf ql_X8_cheapestOf qn_8 qc_X8_cheapestOf) rfl rfl rfl (by decide +kernel) ⟨Nat.le_of_ble_eq_true rfl, Nat.le_of_ble_eq_true rfl⟩
theorem u_X8_cheapest_X8_cheapestOfAll_202 {s : State} {args : Array Value} (hts : ∀ w ∈ WU, w.before args s = true) : CallW rm_X8_cheapest s args RX8 RX8 202 yX8_cheapestOfAll cX8_cheapestOfAll 6 (some .boolean) (kw_X8_cheapestOfAll :: WU) rm_X8_cheapestOfAll 0 0 1 := cwV 1 hts (gV qm_8_202 qi_X8_cheapestOfAll ql_X8_cheapestOfAll qn_8 qc_X8_cheapestOfAll) rfl rfl rfl (by decide +kernel) ⟨Nat.le_of_ble_eq_true rfl, Nat.le_of_ble_eq_true rfl⟩
section
variable {p : Program} {l : Launch} {e : Env} {s : State} {m : MethodId} {args : Array Value} {below : List Frame} {meth : Method} {c : Code} {A : Nat → Prop} {G : GE} {a_t a_t_s a_t_image a_t_mind a_t_aside a_t_text a_t_read a_t_comes a_t_begins a_t_latest a_t_move a_t_sort a_t_items a_t_cell a_t_carried : Nat} {r : Int32} {z_t_s : Nat → Int32} {z_t_comes : Nat → Int32} {z_t_begins : Nat → Int32} {z_t_back : Int32} {z_t_waits : Int32} {z_t_loads : Int32} {z_t_bestRound : Int32} {z_t_bestPlace : Int32} {z_t_bestAdds : Int32} {z_t_regret : Int32}
set_option maxRecDepth 100000 in
set_option maxHeartbeats 4000000 in
theorem k_X8_cheapest_65 (C : Cx p s m args meth c cX8_cheapest (some .int) 5 RX8 G A) (t_isKept : Int32) (t_work : Int32) (t_kind : Int32) (t_letters : Int32) (t_at : Int32) (t_fault : Int32) (t_back : Int32) (t_waits : Int32) (t_miles : Int32) (t_loads : Int32) (t_bestRound : Int32) (t_bestPlace : Int32) (t_bestAdds : Int32) (t_regret : Int32) (t_z : Int32) (t_s : Nat → Int32) (t_comes : Nat → Int32) (t_begins : Nat → Int32) (x2 : Int32) (x3 : Int32) (y0 : Int32) {H : Heap} {locs : List Loc} {ls : Array Slot} (hf : b_X8_cheapest_65 x2 x3 y0 t_s t_comes t_begins t_back t_waits t_loads t_bestRound t_bestPlace t_bestAdds t_regret = some (r, z_t_s, z_t_comes, z_t_begins, z_t_back, z_t_waits, z_t_loads, z_t_bestRound, z_t_bestPlace, z_t_bestAdds, z_t_regret)) (S : St G A s.heap H locs (w_X8_cheapest G a_t a_t_s a_t_image a_t_mind a_t_aside a_t_text a_t_read a_t_comes a_t_begins a_t_latest a_t_move a_t_sort a_t_items a_t_cell a_t_carried t_isKept t_work t_kind t_letters t_at t_fault t_back t_waits t_miles t_loads t_bestRound t_bestPlace t_bestAdds t_regret t_z t_s t_comes t_begins)) (hl : lv_has ls 5 [(0, .ref a_t), (2, .int x2), (3, .int x3)]) : W p l e rm_X8_cheapest s m args below meth c H locs 0 0 (QI G below args s A r (w_X8_cheapest G a_t a_t_s a_t_image a_t_mind a_t_aside a_t_text a_t_read a_t_comes a_t_begins a_t_latest a_t_move a_t_sort a_t_items a_t_cell a_t_carried t_isKept t_work t_kind t_letters t_at t_fault z_t_back z_t_waits t_miles z_t_loads z_t_bestRound z_t_bestPlace z_t_bestAdds z_t_regret t_z z_t_s z_t_comes z_t_begins)) (F0 m 65 ls [.int y0]) := by
  unfold b_X8_cheapest_65 at hf
  have hx := C.1
  have hb := C.2.1
  have hown := C.2.2.2.2.1
  have hts := C.2.2.2.2.2.1
  have hN := C.2.2.2.2.2.2.2.2.2.2
  refine lv_istore (pc := 65) (lv' := [(4, .int y0), (0, .ref a_t), (2, .int x2), (3, .int x3)]) hx hb dX8_cheapest_65 hl (by decide) rfl (fun ls hl => ?_)
  refine lv_iload (pc := 67) hx hb dX8_cheapest_67 (lv_at hl 0 rfl) ?_
  refine lv_if_ne (tgt := 75) (pc := 69) hx hb dX8_cheapest_69 (by decide) (fun c1 => ?_) (fun c1 => ?_)
  · have hf := ifn c1 hf
    refine lv_iload_n (pc := 75) hx hb dX8_cheapest_75 rfl (lv_at hl 3 rfl) ?_
    refine lv_if_ne (tgt := 94) (pc := 76) hx hb dX8_cheapest_76 (by decide) (fun c2 => ?_) (fun c2 => ?_)
    · have hf := ifn c2 hf
      refine lv_iload_n (pc := 94) hx hb dX8_cheapest_94 rfl (lv_at hl 3 rfl) ?_
      refine lv_iconst (pc := 95) hx hb dX8_cheapest_95 ic_1 ?_
      refine lv_icmp_ne (tgt := 106) (pc := 96) hx hb dX8_cheapest_96 (by decide) (fun c3 => ?_) (fun c3 => ?_)
      · have hf := ifn c3 hf
        refine lv_iload_n (pc := 106) hx hb dX8_cheapest_106 rfl (lv_at hl 3 rfl) ?_
        refine lv_iconst (pc := 107) hx hb dX8_cheapest_107 ic_2 ?_
        refine lv_icmp_ne (tgt := 118) (pc := 108) hx hb dX8_cheapest_108 (by decide) (fun c4 => ?_) (fun c4 => ?_)
        · have hf := ifn c4 hf
          refine lv_aload_n (pc := 118) hx hb dX8_cheapest_118 rfl (lv_at hl 1 rfl) ?_
          refine x_get (pc := 119) (ci := 8) (T := TX8) (v := .int t_regret) C S 0 rfl rfl inlX8 22 (by decide) rfl qf_8_199 rfl dX8_cheapest_119 ?_
          cases hf
          exact x_iret (pc := 122) C S dX8_cheapest_122
        · have hf := ifp c4 hf
          refine lv_aload_n (pc := 111) hx hb dX8_cheapest_111 rfl (lv_at hl 1 rfl) ?_
          refine x_get (pc := 112) (ci := 8) (T := TX8) (v := .int t_bestAdds) C S 0 rfl rfl inlX8 21 (by decide) rfl qf_8_190 rfl dX8_cheapest_112 ?_
          refine lv_goto (tgt := 122) (pc := 115) hx hb dX8_cheapest_115 (by decide) ?_
          cases hf
          exact x_iret (pc := 122) C S dX8_cheapest_122
      · have hf := ifp c3 hf
        refine lv_aload_n (pc := 99) hx hb dX8_cheapest_99 rfl (lv_at hl 1 rfl) ?_
        refine x_get (pc := 100) (ci := 8) (T := TX8) (v := .int t_bestPlace) C S 0 rfl rfl inlX8 20 (by decide) rfl qf_8_187 rfl dX8_cheapest_100 ?_
        refine lv_goto (tgt := 122) (pc := 103) hx hb dX8_cheapest_103 (by decide) ?_
        cases hf
        exact x_iret (pc := 122) C S dX8_cheapest_122
    · have hf := ifp c2 hf
      refine lv_iload_n (pc := 79) hx hb dX8_cheapest_79 rfl (lv_at hl 2 rfl) ?_
      refine lv_if_ge (tgt := 90) (pc := 80) hx hb dX8_cheapest_80 (by decide) (fun c5 => ?_) (fun c5 => ?_)
      · have hf := ifp c5 hf
        refine lv_iload_n (pc := 90) hx hb dX8_cheapest_90 rfl (lv_at hl 2 rfl) ?_
        refine lv_goto (tgt := 122) (pc := 91) hx hb dX8_cheapest_91 (by decide) ?_
        cases hf
        exact x_iret (pc := 122) C S dX8_cheapest_122
      · have hf := ifn c5 hf
        refine lv_aload_n (pc := 83) hx hb dX8_cheapest_83 rfl (lv_at hl 1 rfl) ?_
        refine x_get (pc := 84) (ci := 8) (T := TX8) (v := .int t_bestRound) C S 0 rfl rfl inlX8 19 (by decide) rfl qf_8_193 rfl dX8_cheapest_84 ?_
        refine lv_goto (tgt := 122) (pc := 87) hx hb dX8_cheapest_87 (by decide) ?_
        cases hf
        exact x_iret (pc := 122) C S dX8_cheapest_122
  · have hf := ifp c1 hf
    refine lv_bipush (pc := 72) hx hb dX8_cheapest_72 bc_m5 ?_
    cases hf
    exact x_iret (pc := 74) C S dX8_cheapest_74
set_option maxRecDepth 100000 in
set_option maxHeartbeats 4000000 in
theorem k_X8_cheapest_28 (C : Cx p s m args meth c cX8_cheapest (some .int) 5 RX8 G A) (t_isKept : Int32) (t_work : Int32) (t_kind : Int32) (t_letters : Int32) (t_at : Int32) (t_fault : Int32) (t_back : Int32) (t_waits : Int32) (t_miles : Int32) (t_loads : Int32) (t_bestRound : Int32) (t_bestPlace : Int32) (t_bestAdds : Int32) (t_regret : Int32) (t_z : Int32) (t_s : Nat → Int32) (t_comes : Nat → Int32) (t_begins : Nat → Int32) (x1 : Int32) (x2 : Int32) (x3 : Int32) (y0 : Int32) (y1 : Int32) (y2 : Int32) {H : Heap} {locs : List Loc} {ls : Array Slot} (hf : b_X8_cheapest_28 x1 x2 x3 y0 y1 y2 t_s t_comes t_begins t_back t_waits t_loads t_bestRound t_bestPlace t_bestAdds t_regret = some (r, z_t_s, z_t_comes, z_t_begins, z_t_back, z_t_waits, z_t_loads, z_t_bestRound, z_t_bestPlace, z_t_bestAdds, z_t_regret)) (S : St G A s.heap H locs (w_X8_cheapest G a_t a_t_s a_t_image a_t_mind a_t_aside a_t_text a_t_read a_t_comes a_t_begins a_t_latest a_t_move a_t_sort a_t_items a_t_cell a_t_carried t_isKept t_work t_kind t_letters t_at t_fault t_back t_waits t_miles t_loads t_bestRound t_bestPlace t_bestAdds t_regret t_z t_s t_comes t_begins)) (hl : lv_has ls 5 [(0, .ref a_t), (1, .int x1), (2, .int x2), (3, .int x3)]) : W p l e rm_X8_cheapest s m args below meth c H locs 0 0 (QI G below args s A r (w_X8_cheapest G a_t a_t_s a_t_image a_t_mind a_t_aside a_t_text a_t_read a_t_comes a_t_begins a_t_latest a_t_move a_t_sort a_t_items a_t_cell a_t_carried t_isKept t_work t_kind t_letters t_at t_fault z_t_back z_t_waits t_miles z_t_loads z_t_bestRound z_t_bestPlace z_t_bestAdds z_t_regret t_z z_t_s z_t_comes z_t_begins)) (F0 m 28 ls [.int y2, .int y1, .int y0]) := by
  unfold b_X8_cheapest_28 at hf
  have hx := C.1
  have hb := C.2.1
  have hown := C.2.2.2.2.1
  have hts := C.2.2.2.2.2.1
  have hN := C.2.2.2.2.2.2.2.2.2.2
  obtain ⟨r1, hq1, hf⟩ := bd_e hf
  refine x_sI (pc := 28) (As := [.int y0, .int y1, .int y2]) (rest := []) (isC := []) (ws' := (w_X8_cheapest G a_t a_t_s a_t_image a_t_mind a_t_aside a_t_text a_t_read a_t_comes a_t_begins a_t_latest a_t_move a_t_sort a_t_items a_t_cell a_t_carried t_isKept t_work t_kind t_letters t_at t_fault t_back t_waits t_miles t_loads t_bestRound t_bestPlace t_bestAdds t_regret t_z t_s t_comes t_begins)) C S (c_X8_isIn l G y0 y1 y2 r1 hq1) (u_X8_cheapest_X8_isIn_55 hts) rfl (by decide +kernel) [none, none, none, none] (by decide +kernel) rfl rfl rfl hl.1 rfl (Nat.le_of_ble_eq_true rfl) dX8_cheapest_28 (fun H locs S => ?_)
  refine lv_if_ne (tgt := 36) (pc := 31) hx hb dX8_cheapest_31 (by decide) (fun c2 => ?_) (fun c2 => ?_)
  · have hf := ifn c2 hf
    refine lv_aload_n (pc := 36) hx hb dX8_cheapest_36 rfl (lv_at hl 0 rfl) ?_
    refine lv_iload_n (pc := 37) hx hb dX8_cheapest_37 rfl (lv_at hl 1 rfl) ?_
    obtain ⟨r3, hq3, hf⟩ := bd_e hf
    refine x_vI (pc := 38) (As := [.int x1]) (rest := []) (isC := [0, 1]) (ws' := (w_X8_cheapest G a_t a_t_s a_t_image a_t_mind a_t_aside a_t_text a_t_read a_t_comes a_t_begins a_t_latest a_t_move a_t_sort a_t_items a_t_cell a_t_carried t_isKept t_work t_kind t_letters t_at t_fault t_back t_waits t_miles t_loads t_bestRound t_bestPlace t_bestAdds t_regret t_z t_s t_comes t_begins)) C S (c_X8_roundOf l G a_t a_t_s a_t_image a_t_mind a_t_aside a_t_text a_t_read a_t_comes a_t_begins a_t_latest a_t_move a_t_sort a_t_items a_t_cell a_t_carried t_isKept t_work t_kind t_letters t_at t_fault t_back t_waits t_miles t_loads t_bestRound t_bestPlace t_bestAdds t_regret t_z t_s x1 r3 hq3) (u_X8_cheapest_X8_roundOf_157 hts) (ci := 8) rfl 0 rfl rfl (by decide +kernel) [some 0, some 1, none, none] (by decide +kernel) rfl rfl rfl hl.1 rfl (Nat.le_of_ble_eq_true rfl) dX8_cheapest_38 (fun H locs S => ?_)
    refine lv_if_lt (tgt := 47) (pc := 41) hx hb dX8_cheapest_41 (by decide) (fun c4 => ?_) (fun c4 => ?_)
    · have hf := ifp c4 hf
      refine lv_iload_n (pc := 47) hx hb dX8_cheapest_47 rfl (lv_at hl 2 rfl) ?_
      refine lv_if_ge (tgt := 59) (pc := 48) hx hb dX8_cheapest_48 (by decide) (fun c5 => ?_) (fun c5 => ?_)
      · have hf := ifp c5 hf
        refine lv_aload_n (pc := 59) hx hb dX8_cheapest_59 rfl (lv_at hl 0 rfl) ?_
        refine lv_iload_n (pc := 60) hx hb dX8_cheapest_60 rfl (lv_at hl 1 rfl) ?_
        refine lv_iload_n (pc := 61) hx hb dX8_cheapest_61 rfl (lv_at hl 2 rfl) ?_
        obtain ⟨⟨r6, o6_t_s, o6_t_comes, o6_t_begins, o6_t_back, o6_t_waits, o6_t_loads, o6_t_bestPlace, o6_t_bestAdds⟩, hq6, hf⟩ := bd_e hf
        refine x_vI (pc := 62) (As := [.int x1, .int x2]) (rest := []) (isC := [0, 1, 2, 3]) (ws' := (w_X8_cheapest G a_t a_t_s a_t_image a_t_mind a_t_aside a_t_text a_t_read a_t_comes a_t_begins a_t_latest a_t_move a_t_sort a_t_items a_t_cell a_t_carried t_isKept t_work t_kind t_letters t_at t_fault o6_t_back o6_t_waits t_miles o6_t_loads t_bestRound o6_t_bestPlace o6_t_bestAdds t_regret t_z o6_t_s o6_t_comes o6_t_begins)) C S (c_X8_cheapestOf l G a_t a_t_s a_t_image a_t_mind a_t_aside a_t_text a_t_read a_t_comes a_t_begins a_t_latest a_t_move a_t_sort a_t_items a_t_cell a_t_carried t_isKept t_work t_kind t_letters t_at t_fault t_back t_waits t_miles t_loads t_bestRound t_bestPlace t_bestAdds t_regret t_z t_s t_comes t_begins x1 x2 r6 o6_t_s o6_t_comes o6_t_begins o6_t_back o6_t_waits o6_t_loads o6_t_bestPlace o6_t_bestAdds hq6) (u_X8_cheapest_X8_cheapestOf_196 hts) (ci := 8) rfl 0 rfl rfl (by decide +kernel) [some 0, some 1, some 2, some 3] (by decide +kernel) rfl rfl rfl hl.1 rfl (Nat.le_of_ble_eq_true rfl) dX8_cheapest_62 (fun H locs S => ?_)
        exact k_X8_cheapest_65 C (t_isKept) (t_work) (t_kind) (t_letters) (t_at) (t_fault) (o6_t_back) (o6_t_waits) (t_miles) (o6_t_loads) (t_bestRound) (o6_t_bestPlace) (o6_t_bestAdds) (t_regret) (t_z) (o6_t_s) (o6_t_comes) (o6_t_begins) (x2) (x3) (r6) hf S (lv_sub hl [0, 2, 3] rfl)
      · have hf := ifn c5 hf
        refine lv_aload_n (pc := 51) hx hb dX8_cheapest_51 rfl (lv_at hl 0 rfl) ?_
        refine lv_iload_n (pc := 52) hx hb dX8_cheapest_52 rfl (lv_at hl 1 rfl) ?_
        obtain ⟨⟨r7, o7_t_s, o7_t_comes, o7_t_begins, o7_t_back, o7_t_waits, o7_t_loads, o7_t_bestRound, o7_t_bestPlace, o7_t_bestAdds, o7_t_regret⟩, hq7, hf⟩ := bd_e hf
        refine x_vI (pc := 53) (As := [.int x1]) (rest := []) (isC := [0, 1, 2, 3]) (ws' := (w_X8_cheapest G a_t a_t_s a_t_image a_t_mind a_t_aside a_t_text a_t_read a_t_comes a_t_begins a_t_latest a_t_move a_t_sort a_t_items a_t_cell a_t_carried t_isKept t_work t_kind t_letters t_at t_fault o7_t_back o7_t_waits t_miles o7_t_loads o7_t_bestRound o7_t_bestPlace o7_t_bestAdds o7_t_regret t_z o7_t_s o7_t_comes o7_t_begins)) C S (c_X8_cheapestOfAll l G a_t a_t_s a_t_image a_t_mind a_t_aside a_t_text a_t_read a_t_comes a_t_begins a_t_latest a_t_move a_t_sort a_t_items a_t_cell a_t_carried t_isKept t_work t_kind t_letters t_at t_fault t_back t_waits t_miles t_loads t_bestRound t_bestPlace t_bestAdds t_regret t_z t_s t_comes t_begins x1 r7 o7_t_s o7_t_comes o7_t_begins o7_t_back o7_t_waits o7_t_loads o7_t_bestRound o7_t_bestPlace o7_t_bestAdds o7_t_regret hq7) (u_X8_cheapest_X8_cheapestOfAll_202 hts) (ci := 8) rfl 0 rfl rfl (by decide +kernel) [some 0, some 1, some 2, some 3] (by decide +kernel) rfl rfl rfl hl.1 rfl (Nat.le_of_ble_eq_true rfl) dX8_cheapest_53 (fun H locs S => ?_)
        refine lv_goto (tgt := 65) (pc := 56) hx hb dX8_cheapest_56 (by decide) ?_
        exact k_X8_cheapest_65 C (t_isKept) (t_work) (t_kind) (t_letters) (t_at) (t_fault) (o7_t_back) (o7_t_waits) (t_miles) (o7_t_loads) (o7_t_bestRound) (o7_t_bestPlace) (o7_t_bestAdds) (o7_t_regret) (t_z) (o7_t_s) (o7_t_comes) (o7_t_begins) (x2) (x3) (r7) hf S (lv_sub hl [0, 2, 3] rfl)
    · have hf := ifn c4 hf
      refine lv_bipush (pc := 44) hx hb dX8_cheapest_44 bc_m3 ?_
      cases hf
      exact x_iret (pc := 46) C S dX8_cheapest_46
  · have hf := ifp c2 hf
    refine lv_iconst (pc := 34) hx hb dX8_cheapest_34 ic_m1 ?_
    cases hf
    exact x_iret (pc := 35) C S dX8_cheapest_35
set_option maxRecDepth 100000 in
set_option maxHeartbeats 4000000 in
theorem c_X8_cheapest (l : Launch) (G : GE) (a_t a_t_s a_t_image a_t_mind a_t_aside a_t_text a_t_read a_t_comes a_t_begins a_t_latest a_t_move a_t_sort a_t_items a_t_cell a_t_carried : Nat) (t_isKept : Int32) (t_work : Int32) (t_kind : Int32) (t_letters : Int32) (t_at : Int32) (t_fault : Int32) (t_back : Int32) (t_waits : Int32) (t_miles : Int32) (t_loads : Int32) (t_bestRound : Int32) (t_bestPlace : Int32) (t_bestAdds : Int32) (t_regret : Int32) (t_z : Int32) (t_s : Nat → Int32) (t_comes : Nat → Int32) (t_begins : Nat → Int32) (x1 : Int32) (x2 : Int32) (x3 : Int32) (r : Int32) (z_t_s : Nat → Int32) (z_t_comes : Nat → Int32) (z_t_begins : Nat → Int32) (z_t_back : Int32) (z_t_waits : Int32) (z_t_loads : Int32) (z_t_bestRound : Int32) (z_t_bestPlace : Int32) (z_t_bestAdds : Int32) (z_t_regret : Int32) (hf : f_X8_cheapest t_s t_comes t_begins t_back t_waits t_loads t_bestRound t_bestPlace t_bestAdds t_regret x1 x2 x3 = some (r, z_t_s, z_t_comes, z_t_begins, z_t_back, z_t_waits, z_t_loads, z_t_bestRound, z_t_bestPlace, z_t_bestAdds, z_t_regret)) : CI l G yX8_cheapest kw_X8_cheapest rm_X8_cheapest [.ref a_t, .int x1, .int x2, .int x3] (w_X8_cheapest G a_t a_t_s a_t_image a_t_mind a_t_aside a_t_text a_t_read a_t_comes a_t_begins a_t_latest a_t_move a_t_sort a_t_items a_t_cell a_t_carried t_isKept t_work t_kind t_letters t_at t_fault t_back t_waits t_miles t_loads t_bestRound t_bestPlace t_bestAdds t_regret t_z t_s t_comes t_begins) r (w_X8_cheapest G a_t a_t_s a_t_image a_t_mind a_t_aside a_t_text a_t_read a_t_comes a_t_begins a_t_latest a_t_move a_t_sort a_t_items a_t_cell a_t_carried t_isKept t_work t_kind t_letters t_at t_fault z_t_back z_t_waits t_miles z_t_loads z_t_bestRound z_t_bestPlace z_t_bestAdds z_t_regret t_z z_t_s z_t_comes z_t_begins) := by
  refine en_I (cc := cX8_cheapest) (maxL := 5) (ret := (some .int)) (by decide +kernel) (Nat.le_of_ble_eq_true rfl) ?_
  intro p e s m args below meth c A ls C S hl
  have hl : lv_has ls 5 [(0, .ref a_t), (1, .int x1), (2, .int x2), (3, .int x3)] := hl
  have C : Cx p s m args meth c cX8_cheapest (some .int) 5 RX8 G A := C
  unfold f_X8_cheapest at hf
  have hx := C.1
  have hb := C.2.1
  have hown := C.2.2.2.2.1
  have hts := C.2.2.2.2.2.1
  have hN := C.2.2.2.2.2.2.2.2.2.2
  refine lv_aload_n (pc := 0) hx hb dX8_cheapest_0 rfl (lv_at hl 0 rfl) ?_
  refine lv_iload_n (pc := 1) hx hb dX8_cheapest_1 rfl (lv_at hl 1 rfl) ?_
  obtain ⟨r1, hq1, hf⟩ := bd_e hf
  refine x_vI (pc := 2) (As := [.int x1]) (rest := []) (isC := [0, 1]) (ws' := (w_X8_cheapest G a_t a_t_s a_t_image a_t_mind a_t_aside a_t_text a_t_read a_t_comes a_t_begins a_t_latest a_t_move a_t_sort a_t_items a_t_cell a_t_carried t_isKept t_work t_kind t_letters t_at t_fault t_back t_waits t_miles t_loads t_bestRound t_bestPlace t_bestAdds t_regret t_z t_s t_comes t_begins)) C S (c_X8_isStop l G a_t a_t_s a_t_image a_t_mind a_t_aside a_t_text a_t_read a_t_comes a_t_begins a_t_latest a_t_move a_t_sort a_t_items a_t_cell a_t_carried t_isKept t_work t_kind t_letters t_at t_fault t_back t_waits t_miles t_loads t_bestRound t_bestPlace t_bestAdds t_regret t_z t_s x1 r1 hq1) (u_X8_cheapest_X8_isStop_151 hts) (ci := 8) rfl 0 rfl rfl (by decide +kernel) [some 0, some 1, none, none] (by decide +kernel) rfl rfl rfl hl.1 rfl (Nat.le_of_ble_eq_true rfl) dX8_cheapest_2 (fun H locs S => ?_)
  refine lv_if_eq (tgt := 34) (pc := 5) hx hb dX8_cheapest_5 (by decide) (fun c2 => ?_) (fun c2 => ?_)
  · have hf := ifp c2 hf
    refine lv_iconst (pc := 34) hx hb dX8_cheapest_34 ic_m1 ?_
    cases hf
    exact x_iret (pc := 35) C S dX8_cheapest_35
  · have hf := ifn c2 hf
    refine lv_iload_n (pc := 8) hx hb dX8_cheapest_8 rfl (lv_at hl 2 rfl) ?_
    refine lv_iconst (pc := 9) hx hb dX8_cheapest_9 ic_m1 ?_
    refine lv_iconst (pc := 10) hx hb dX8_cheapest_10 ic_3 ?_
    obtain ⟨r3, hq3, hf⟩ := bd_e hf
    refine x_sI (pc := 11) (As := [.int x2, .int (-1 : Int32), .int (3 : Int32)]) (rest := []) (isC := []) (ws' := (w_X8_cheapest G a_t a_t_s a_t_image a_t_mind a_t_aside a_t_text a_t_read a_t_comes a_t_begins a_t_latest a_t_move a_t_sort a_t_items a_t_cell a_t_carried t_isKept t_work t_kind t_letters t_at t_fault t_back t_waits t_miles t_loads t_bestRound t_bestPlace t_bestAdds t_regret t_z t_s t_comes t_begins)) C S (c_X8_isIn l G x2 (-1 : Int32) (3 : Int32) r3 hq3) (u_X8_cheapest_X8_isIn_55 hts) rfl (by decide +kernel) [none, none, none, none] (by decide +kernel) rfl rfl rfl hl.1 rfl (Nat.le_of_ble_eq_true rfl) dX8_cheapest_11 (fun H locs S => ?_)
    refine lv_if_eq (tgt := 34) (pc := 14) hx hb dX8_cheapest_14 (by decide) (fun c4 => ?_) (fun c4 => ?_)
    · have hf := ifp c4 hf
      refine lv_iconst (pc := 34) hx hb dX8_cheapest_34 ic_m1 ?_
      cases hf
      exact x_iret (pc := 35) C S dX8_cheapest_35
    · have hf := ifn c4 hf
      refine lv_iload_n (pc := 17) hx hb dX8_cheapest_17 rfl (lv_at hl 3 rfl) ?_
      refine lv_iconst (pc := 18) hx hb dX8_cheapest_18 ic_0 ?_
      refine lv_iload_n (pc := 19) hx hb dX8_cheapest_19 rfl (lv_at hl 2 rfl) ?_
      refine lv_if_ge (tgt := 27) (pc := 20) hx hb dX8_cheapest_20 (by decide) (fun c5 => ?_) (fun c5 => ?_)
      · have hf := ifp c5 hf
        refine lv_iconst (pc := 27) hx hb dX8_cheapest_27 ic_2 ?_
        exact k_X8_cheapest_28 C (t_isKept) (t_work) (t_kind) (t_letters) (t_at) (t_fault) (t_back) (t_waits) (t_miles) (t_loads) (t_bestRound) (t_bestPlace) (t_bestAdds) (t_regret) (t_z) (t_s) (t_comes) (t_begins) (x1) (x2) (x3) (x3) ((0 : Int32)) ((2 : Int32)) hf S (lv_sub hl [0, 1, 2, 3] rfl)
      · have hf := ifn c5 hf
        refine lv_iconst (pc := 23) hx hb dX8_cheapest_23 ic_3 ?_
        refine lv_goto (tgt := 28) (pc := 24) hx hb dX8_cheapest_24 (by decide) ?_
        exact k_X8_cheapest_28 C (t_isKept) (t_work) (t_kind) (t_letters) (t_at) (t_fault) (t_back) (t_waits) (t_miles) (t_loads) (t_bestRound) (t_bestPlace) (t_bestAdds) (t_regret) (t_z) (t_s) (t_comes) (t_begins) (x1) (x2) (x3) (x3) ((0 : Int32)) ((3 : Int32)) hf S (lv_sub hl [0, 1, 2, 3] rfl)
end

abbrev rm_X8_fails : Room := { frames := 0, cells := 0, slots := 0, locals := 0 }
abbrev kw_X8_fails : Cond := .code yX8_fails cX8_fails 2 none
abbrev w_X8_fails (G : GE) (a_t a_t_s a_t_image a_t_mind a_t_aside a_t_text a_t_read a_t_comes a_t_begins a_t_latest a_t_move a_t_sort a_t_items a_t_cell a_t_carried : Nat) (t_isKept : Int32) (t_work : Int32) (t_kind : Int32) (t_letters : Int32) (t_at : Int32) (t_fault : Int32) (t_back : Int32) (t_waits : Int32) (t_miles : Int32) (t_loads : Int32) (t_bestRound : Int32) (t_bestPlace : Int32) (t_bestAdds : Int32) (t_regret : Int32) (t_z : Int32) : va_W := [(a_t, ob 8 [.ref a_t_s, .ref a_t_image, .ref a_t_mind, .ref a_t_aside, .int t_isKept, .int t_work, .int t_kind, .ref a_t_text, .ref a_t_read, .int t_letters, .int t_at, .int t_fault, .ref a_t_comes, .ref a_t_begins, .ref a_t_latest, .int t_back, .int t_waits, .int t_miles, .int t_loads, .int t_bestRound, .int t_bestPlace, .int t_bestAdds, .int t_regret, .ref a_t_move, .ref a_t_sort, .ref a_t_items, .ref a_t_cell, .ref a_t_carried, .int t_z])]
section
variable {p : Program} {l : Launch} {e : Env} {s : State} {m : MethodId} {args : Array Value} {below : List Frame} {meth : Method} {c : Code} {A : Nat → Prop} {G : GE} {a_t a_t_s a_t_image a_t_mind a_t_aside a_t_text a_t_read a_t_comes a_t_begins a_t_latest a_t_move a_t_sort a_t_items a_t_cell a_t_carried : Nat} {z_t_fault : Int32}
set_option maxRecDepth 100000 in
set_option maxHeartbeats 4000000 in
theorem c_X8_fails (l : Launch) (G : GE) (a_t a_t_s a_t_image a_t_mind a_t_aside a_t_text a_t_read a_t_comes a_t_begins a_t_latest a_t_move a_t_sort a_t_items a_t_cell a_t_carried : Nat) (t_isKept : Int32) (t_work : Int32) (t_kind : Int32) (t_letters : Int32) (t_at : Int32) (t_fault : Int32) (t_back : Int32) (t_waits : Int32) (t_miles : Int32) (t_loads : Int32) (t_bestRound : Int32) (t_bestPlace : Int32) (t_bestAdds : Int32) (t_regret : Int32) (t_z : Int32) (x1 : Int32) (z_t_fault : Int32) (hf : f_X8_fails t_fault x1 = some z_t_fault) : CV l G yX8_fails kw_X8_fails rm_X8_fails [.ref a_t, .int x1] (w_X8_fails G a_t a_t_s a_t_image a_t_mind a_t_aside a_t_text a_t_read a_t_comes a_t_begins a_t_latest a_t_move a_t_sort a_t_items a_t_cell a_t_carried t_isKept t_work t_kind t_letters t_at t_fault t_back t_waits t_miles t_loads t_bestRound t_bestPlace t_bestAdds t_regret t_z) (w_X8_fails G a_t a_t_s a_t_image a_t_mind a_t_aside a_t_text a_t_read a_t_comes a_t_begins a_t_latest a_t_move a_t_sort a_t_items a_t_cell a_t_carried t_isKept t_work t_kind t_letters t_at z_t_fault t_back t_waits t_miles t_loads t_bestRound t_bestPlace t_bestAdds t_regret t_z) := by
  refine en_V (cc := cX8_fails) (maxL := 2) (ret := none) (by decide +kernel) (Nat.le_of_ble_eq_true rfl) ?_
  intro p e s m args below meth c A ls C S hl
  have hl : lv_has ls 2 [(0, .ref a_t), (1, .int x1)] := hl
  have C : Cx p s m args meth c cX8_fails none 2 RX8 G A := C
  unfold f_X8_fails at hf
  have hx := C.1
  have hb := C.2.1
  have hown := C.2.2.2.2.1
  have hts := C.2.2.2.2.2.1
  have hN := C.2.2.2.2.2.2.2.2.2.2
  refine lv_aload_n (pc := 0) hx hb dX8_fails_0 rfl (lv_at hl 0 rfl) ?_
  refine x_get (pc := 1) (ci := 8) (T := TX8) (v := .int t_fault) C S 0 rfl rfl inlX8 11 (by decide) rfl qf_8_124 rfl dX8_fails_1 ?_
  refine lv_if_ge (tgt := 12) (pc := 4) hx hb dX8_fails_4 (by decide) (fun c1 => ?_) (fun c1 => ?_)
  · have hf := ifp c1 hf
    cases hf
    exact x_vret (pc := 12) C S dX8_fails_12
  · have hf := ifn c1 hf
    refine lv_aload_n (pc := 7) hx hb dX8_fails_7 rfl (lv_at hl 0 rfl) ?_
    refine lv_iload_n (pc := 8) hx hb dX8_fails_8 rfl (lv_at hl 1 rfl) ?_
    refine x_put (pc := 9) (ci := 8) (T := TX8) (ws' := (w_X8_fails G a_t a_t_s a_t_image a_t_mind a_t_aside a_t_text a_t_read a_t_comes a_t_begins a_t_latest a_t_move a_t_sort a_t_items a_t_cell a_t_carried t_isKept t_work t_kind t_letters t_at x1 t_back t_waits t_miles t_loads t_bestRound t_bestPlace t_bestAdds t_regret t_z)) C S tyX8 tyX8_ok nmX8 0 rfl rfl inlX8 11 (by decide) rfl qf_8_124 rfl rfl rfl rfl (Nat.le_of_ble_eq_true rfl) rfl dX8_fails_9 (fun H locs S => ?_)
    cases hf
    exact x_vret (pc := 12) C S dX8_fails_12
end

abbrev rm_X8_number : Room := { frames := 1, cells := 0, slots := 0, locals := 22 }
abbrev kw_X8_number : Cond := .code yX8_number cX8_number 6 (some .int)
abbrev w_X8_number (G : GE) (a_t a_t_s a_t_image a_t_mind a_t_aside a_t_text a_t_read a_t_comes a_t_begins a_t_latest a_t_move a_t_sort a_t_items a_t_cell a_t_carried : Nat) (t_isKept : Int32) (t_work : Int32) (t_kind : Int32) (t_letters : Int32) (t_at : Int32) (t_fault : Int32) (t_back : Int32) (t_waits : Int32) (t_miles : Int32) (t_loads : Int32) (t_bestRound : Int32) (t_bestPlace : Int32) (t_bestAdds : Int32) (t_regret : Int32) (t_z : Int32) (t_text : Nat → Int32) : va_W := [(a_t, ob 8 [.ref a_t_s, .ref a_t_image, .ref a_t_mind, .ref a_t_aside, .int t_isKept, .int t_work, .int t_kind, .ref a_t_text, .ref a_t_read, .int t_letters, .int t_at, .int t_fault, .ref a_t_comes, .ref a_t_begins, .ref a_t_latest, .int t_back, .int t_waits, .int t_miles, .int t_loads, .int t_bestRound, .int t_bestPlace, .int t_bestAdds, .int t_regret, .ref a_t_move, .ref a_t_sort, .ref a_t_items, .ref a_t_cell, .ref a_t_carried, .int t_z]), (a_t_text, aI G 100 t_text)]
theorem u_X8_number_X8_isIn_55 {s : State} {args : Array Value} (hts : ∀ w ∈ WU, w.before args s = true) : CallB rm_X8_number s args RX8 55 yX8_isIn cX8_isIn 3 (some .boolean) (kw_X8_isIn :: WU) rm_X8_isIn 0 0 3 ∧ (Cond.static yX8_isIn).before args s = true := va_cwS 3 hts (gS qm_8_55 qs_X8_isIn qn_8 qc_X8_isIn) rfl rfl rfl (by decide +kernel) ⟨Nat.le_of_ble_eq_true rfl, Nat.le_of_ble_eq_true rfl⟩
theorem u_X8_number_X8_fails_133 {s : State} {args : Array Value} (hts : ∀ w ∈ WU, w.before args s = true) : CallW rm_X8_number s args RX8 RX8 133 yX8_fails cX8_fails 2 none (kw_X8_fails :: WU) rm_X8_fails 0 0 1 := cwV 1 hts (gV qm_8_133 qi_X8_fails ql_X8_fails qn_8 qc_X8_fails) rfl rfl rfl (by decide +kernel) ⟨Nat.le_of_ble_eq_true rfl, Nat.le_of_ble_eq_true rfl⟩
section
variable {p : Program} {l : Launch} {e : Env} {s : State} {m : MethodId} {args : Array Value} {below : List Frame} {meth : Method} {c : Code} {A : Nat → Prop} {G : GE} {a_t a_t_s a_t_image a_t_mind a_t_aside a_t_text a_t_read a_t_comes a_t_begins a_t_latest a_t_move a_t_sort a_t_items a_t_cell a_t_carried : Nat} {r : Int32} {z_t_at : Int32} {z_t_fault : Int32}
set_option maxRecDepth 100000 in
set_option maxHeartbeats 4000000 in
theorem k_X8_number_107 (C : Cx p s m args meth c cX8_number (some .int) 6 RX8 G A) (t_isKept : Int32) (t_work : Int32) (t_kind : Int32) (t_letters : Int32) (t_at : Int32) (t_fault : Int32) (t_back : Int32) (t_waits : Int32) (t_miles : Int32) (t_loads : Int32) (t_bestRound : Int32) (t_bestPlace : Int32) (t_bestAdds : Int32) (t_regret : Int32) (t_z : Int32) (t_text : Nat → Int32) (x2 : Int32) (x3 : Int32) (x5 : Int32) {H : Heap} {locs : List Loc} {ls : Array Slot} (hf : b_X8_number_107 x2 x3 x5 t_at t_fault = some (r, z_t_at, z_t_fault)) (S : St G A s.heap H locs (w_X8_number G a_t a_t_s a_t_image a_t_mind a_t_aside a_t_text a_t_read a_t_comes a_t_begins a_t_latest a_t_move a_t_sort a_t_items a_t_cell a_t_carried t_isKept t_work t_kind t_letters t_at t_fault t_back t_waits t_miles t_loads t_bestRound t_bestPlace t_bestAdds t_regret t_z t_text)) (hl : lv_has ls 6 [(0, .ref a_t), (2, .int x2), (3, .int x3), (5, .int x5)]) : W p l e rm_X8_number s m args below meth c H locs 0 0 (QI G below args s A r (w_X8_number G a_t a_t_s a_t_image a_t_mind a_t_aside a_t_text a_t_read a_t_comes a_t_begins a_t_latest a_t_move a_t_sort a_t_items a_t_cell a_t_carried t_isKept t_work t_kind t_letters z_t_at z_t_fault t_back t_waits t_miles t_loads t_bestRound t_bestPlace t_bestAdds t_regret t_z t_text)) (F0 m 107 ls []) := by
  unfold b_X8_number_107 at hf
  have hx := C.1
  have hb := C.2.1
  have hown := C.2.2.2.2.1
  have hts := C.2.2.2.2.2.1
  have hN := C.2.2.2.2.2.2.2.2.2.2
  refine lv_iload (pc := 107) hx hb dX8_number_107 (lv_at hl 3 rfl) ?_
  refine lv_iload_n (pc := 109) hx hb dX8_number_109 rfl (lv_at hl 1 rfl) ?_
  refine lv_iload_n (pc := 110) hx hb dX8_number_110 rfl (lv_at hl 2 rfl) ?_
  obtain ⟨r1, hq1, hf⟩ := bd_e hf
  refine x_sI (pc := 111) (As := [.int x5, .int x2, .int x3]) (rest := []) (isC := []) (ws' := (w_X8_number G a_t a_t_s a_t_image a_t_mind a_t_aside a_t_text a_t_read a_t_comes a_t_begins a_t_latest a_t_move a_t_sort a_t_items a_t_cell a_t_carried t_isKept t_work t_kind t_letters t_at t_fault t_back t_waits t_miles t_loads t_bestRound t_bestPlace t_bestAdds t_regret t_z t_text)) C S (c_X8_isIn l G x5 x2 x3 r1 hq1) (u_X8_number_X8_isIn_55 hts) rfl (by decide +kernel) [none, none] (by decide +kernel) rfl rfl rfl hl.1 rfl (Nat.le_of_ble_eq_true rfl) dX8_number_111 (fun H locs S => ?_)
  refine lv_if_ne (tgt := 127) (pc := 114) hx hb dX8_number_114 (by decide) (fun c2 => ?_) (fun c2 => ?_)
  · have hf := ifn c2 hf
    refine lv_iload (pc := 127) hx hb dX8_number_127 (lv_at hl 3 rfl) ?_
    cases hf
    exact x_iret (pc := 129) C S dX8_number_129
  · have hf := ifp c2 hf
    refine lv_aload_n (pc := 117) hx hb dX8_number_117 rfl (lv_at hl 0 rfl) ?_
    refine lv_aload_n (pc := 118) hx hb dX8_number_118 rfl (lv_at hl 0 rfl) ?_
    refine x_get (pc := 119) (ci := 8) (T := TX8) (v := .int t_at) C S 0 rfl rfl inlX8 10 (by decide) rfl qf_8_127 rfl dX8_number_119 ?_
    refine lv_iconst (pc := 122) hx hb dX8_number_122 ic_1 ?_
    refine lv_isub (pc := 123) hx hb dX8_number_123 ?_
    obtain ⟨o3_t_fault, hq3, hf⟩ := bd_e hf
    refine x_vV (pc := 124) (As := [.int (t_at - (1 : Int32))]) (rest := []) (isC := [0]) (ws' := (w_X8_number G a_t a_t_s a_t_image a_t_mind a_t_aside a_t_text a_t_read a_t_comes a_t_begins a_t_latest a_t_move a_t_sort a_t_items a_t_cell a_t_carried t_isKept t_work t_kind t_letters t_at o3_t_fault t_back t_waits t_miles t_loads t_bestRound t_bestPlace t_bestAdds t_regret t_z t_text)) C S (c_X8_fails l G a_t a_t_s a_t_image a_t_mind a_t_aside a_t_text a_t_read a_t_comes a_t_begins a_t_latest a_t_move a_t_sort a_t_items a_t_cell a_t_carried t_isKept t_work t_kind t_letters t_at t_fault t_back t_waits t_miles t_loads t_bestRound t_bestPlace t_bestAdds t_regret t_z (t_at - (1 : Int32)) o3_t_fault hq3) (u_X8_number_X8_fails_133 hts) (ci := 8) rfl 0 rfl rfl (by decide +kernel) [some 0, none] (by decide +kernel) rfl rfl rfl hl.1 rfl (Nat.le_of_ble_eq_true rfl) dX8_number_124 (fun H locs S => ?_)
    refine lv_iload (pc := 127) hx hb dX8_number_127 (lv_at hl 3 rfl) ?_
    cases hf
    exact x_iret (pc := 129) C S dX8_number_129
set_option maxRecDepth 100000 in
set_option maxHeartbeats 4000000 in
theorem k_X8_number_90 (C : Cx p s m args meth c cX8_number (some .int) 6 RX8 G A) (t_isKept : Int32) (t_work : Int32) (t_kind : Int32) (t_letters : Int32) (t_at : Int32) (t_fault : Int32) (t_back : Int32) (t_waits : Int32) (t_miles : Int32) (t_loads : Int32) (t_bestRound : Int32) (t_bestPlace : Int32) (t_bestAdds : Int32) (t_regret : Int32) (t_z : Int32) (t_text : Nat → Int32) (x2 : Int32) (x3 : Int32) (x4 : Int32) (x5 : Int32) {H : Heap} {locs : List Loc} {ls : Array Slot} (hf : b_X8_number_90 x2 x3 x4 x5 t_at t_fault = some (r, z_t_at, z_t_fault)) (S : St G A s.heap H locs (w_X8_number G a_t a_t_s a_t_image a_t_mind a_t_aside a_t_text a_t_read a_t_comes a_t_begins a_t_latest a_t_move a_t_sort a_t_items a_t_cell a_t_carried t_isKept t_work t_kind t_letters t_at t_fault t_back t_waits t_miles t_loads t_bestRound t_bestPlace t_bestAdds t_regret t_z t_text)) (hl : lv_has ls 6 [(0, .ref a_t), (2, .int x2), (3, .int x3), (4, .int x4), (5, .int x5)]) : W p l e rm_X8_number s m args below meth c H locs 0 0 (QI G below args s A r (w_X8_number G a_t a_t_s a_t_image a_t_mind a_t_aside a_t_text a_t_read a_t_comes a_t_begins a_t_latest a_t_move a_t_sort a_t_items a_t_cell a_t_carried t_isKept t_work t_kind t_letters z_t_at z_t_fault t_back t_waits t_miles t_loads t_bestRound t_bestPlace t_bestAdds t_regret t_z t_text)) (F0 m 90 ls []) := by
  unfold b_X8_number_90 at hf
  have hx := C.1
  have hb := C.2.1
  have hown := C.2.2.2.2.1
  have hts := C.2.2.2.2.2.1
  have hN := C.2.2.2.2.2.2.2.2.2.2
  refine lv_aload_n (pc := 90) hx hb dX8_number_90 rfl (lv_at hl 0 rfl) ?_
  refine x_get (pc := 91) (ci := 8) (T := TX8) (v := .int t_at) C S 0 rfl rfl inlX8 10 (by decide) rfl qf_8_127 rfl dX8_number_91 ?_
  refine lv_iload (pc := 94) hx hb dX8_number_94 (lv_at hl 3 rfl) ?_
  refine lv_icmp_ne (tgt := 107) (pc := 96) hx hb dX8_number_96 (by decide) (fun c1 => ?_) (fun c1 => ?_)
  · have hf := ifn c1 hf
    exact k_X8_number_107 C (t_isKept) (t_work) (t_kind) (t_letters) (t_at) (t_fault) (t_back) (t_waits) (t_miles) (t_loads) (t_bestRound) (t_bestPlace) (t_bestAdds) (t_regret) (t_z) (t_text) (x2) (x3) (x5) hf S (lv_sub hl [0, 1, 2, 4] rfl)
  · have hf := ifp c1 hf
    refine lv_aload_n (pc := 99) hx hb dX8_number_99 rfl (lv_at hl 0 rfl) ?_
    refine lv_aload_n (pc := 100) hx hb dX8_number_100 rfl (lv_at hl 0 rfl) ?_
    refine x_get (pc := 101) (ci := 8) (T := TX8) (v := .int t_at) C S 0 rfl rfl inlX8 10 (by decide) rfl qf_8_127 rfl dX8_number_101 ?_
    obtain ⟨o2_t_fault, hq2, hf⟩ := bd_e hf
    refine x_vV (pc := 104) (As := [.int t_at]) (rest := []) (isC := [0]) (ws' := (w_X8_number G a_t a_t_s a_t_image a_t_mind a_t_aside a_t_text a_t_read a_t_comes a_t_begins a_t_latest a_t_move a_t_sort a_t_items a_t_cell a_t_carried t_isKept t_work t_kind t_letters t_at o2_t_fault t_back t_waits t_miles t_loads t_bestRound t_bestPlace t_bestAdds t_regret t_z t_text)) C S (c_X8_fails l G a_t a_t_s a_t_image a_t_mind a_t_aside a_t_text a_t_read a_t_comes a_t_begins a_t_latest a_t_move a_t_sort a_t_items a_t_cell a_t_carried t_isKept t_work t_kind t_letters t_at t_fault t_back t_waits t_miles t_loads t_bestRound t_bestPlace t_bestAdds t_regret t_z t_at o2_t_fault hq2) (u_X8_number_X8_fails_133 hts) (ci := 8) rfl 0 rfl rfl (by decide +kernel) [some 0, none] (by decide +kernel) rfl rfl rfl hl.1 rfl (Nat.le_of_ble_eq_true rfl) dX8_number_104 (fun H locs S => ?_)
    exact k_X8_number_107 C (t_isKept) (t_work) (t_kind) (t_letters) (t_at) (o2_t_fault) (t_back) (t_waits) (t_miles) (t_loads) (t_bestRound) (t_bestPlace) (t_bestAdds) (t_regret) (t_z) (t_text) (x2) (x3) (x5) hf S (lv_sub hl [0, 1, 2, 4] rfl)
set_option maxRecDepth 100000 in
set_option maxHeartbeats 4000000 in
theorem k_X8_number_9 (C : Cx p s m args meth c cX8_number (some .int) 6 RX8 G A) (t_isKept : Int32) (t_work : Int32) (t_kind : Int32) (t_letters : Int32) (t_at : Int32) (t_fault : Int32) (t_back : Int32) (t_waits : Int32) (t_miles : Int32) (t_loads : Int32) (t_bestRound : Int32) (t_bestPlace : Int32) (t_bestAdds : Int32) (t_regret : Int32) (t_z : Int32) (t_text : Nat → Int32) (x1 : Int32) (x2 : Int32) (x3 : Int32) (x4 : Int32) (x5 : Int32) (k9 : Int32 × Int32 → Option (Int32 × Int32 × Int32)) (hk9 : ∀ {H : Heap} {locs : List Loc} {ls : Array Slot} (x5' : Int32) (t_at' : Int32), k9 (x5', t_at') = some (r, z_t_at, z_t_fault) → St G A s.heap H locs (w_X8_number G a_t a_t_s a_t_image a_t_mind a_t_aside a_t_text a_t_read a_t_comes a_t_begins a_t_latest a_t_move a_t_sort a_t_items a_t_cell a_t_carried t_isKept t_work t_kind t_letters t_at' t_fault t_back t_waits t_miles t_loads t_bestRound t_bestPlace t_bestAdds t_regret t_z t_text) → lv_has ls 6 [(0, .ref a_t), (1, .int x1), (2, .int x2), (3, .int x3), (4, .int x4), (5, .int x5')] → W p l e rm_X8_number s m args below meth c H locs 0 0 (QI G below args s A r (w_X8_number G a_t a_t_s a_t_image a_t_mind a_t_aside a_t_text a_t_read a_t_comes a_t_begins a_t_latest a_t_move a_t_sort a_t_items a_t_cell a_t_carried t_isKept t_work t_kind t_letters z_t_at z_t_fault t_back t_waits t_miles t_loads t_bestRound t_bestPlace t_bestAdds t_regret t_z t_text)) (F0 m 9 ls [])) {H : Heap} {locs : List Loc} {ls : Array Slot} (hf : b_X8_number_9 x1 x2 x3 x4 t_text t_letters t_fault k9 x5 t_at = some (r, z_t_at, z_t_fault)) (S : St G A s.heap H locs (w_X8_number G a_t a_t_s a_t_image a_t_mind a_t_aside a_t_text a_t_read a_t_comes a_t_begins a_t_latest a_t_move a_t_sort a_t_items a_t_cell a_t_carried t_isKept t_work t_kind t_letters t_at t_fault t_back t_waits t_miles t_loads t_bestRound t_bestPlace t_bestAdds t_regret t_z t_text)) (hl : lv_has ls 6 [(0, .ref a_t), (1, .int x1), (2, .int x2), (3, .int x3), (4, .int x4), (5, .int x5)]) : W p l e rm_X8_number s m args below meth c H locs 0 0 (QI G below args s A r (w_X8_number G a_t a_t_s a_t_image a_t_mind a_t_aside a_t_text a_t_read a_t_comes a_t_begins a_t_latest a_t_move a_t_sort a_t_items a_t_cell a_t_carried t_isKept t_work t_kind t_letters z_t_at z_t_fault t_back t_waits t_miles t_loads t_bestRound t_bestPlace t_bestAdds t_regret t_z t_text)) (F0 m 9 ls []) := by
  unfold b_X8_number_9 at hf
  have hx := C.1
  have hb := C.2.1
  have hown := C.2.2.2.2.1
  have hts := C.2.2.2.2.2.1
  have hN := C.2.2.2.2.2.2.2.2.2.2
  refine lv_aload_n (pc := 9) hx hb dX8_number_9 rfl (lv_at hl 0 rfl) ?_
  refine x_get (pc := 10) (ci := 8) (T := TX8) (v := .int t_fault) C S 0 rfl rfl inlX8 11 (by decide) rfl qf_8_124 rfl dX8_number_10 ?_
  refine lv_if_ge (tgt := 90) (pc := 13) hx hb dX8_number_13 (by decide) (fun c1 => ?_) (fun c1 => ?_)
  · have hf := ifp c1 hf
    exact k_X8_number_90 C (t_isKept) (t_work) (t_kind) (t_letters) (t_at) (t_fault) (t_back) (t_waits) (t_miles) (t_loads) (t_bestRound) (t_bestPlace) (t_bestAdds) (t_regret) (t_z) (t_text) (x2) (x3) (x4) (x5) hf S (lv_sub hl [0, 2, 3, 4, 5] rfl)
  · have hf := ifn c1 hf
    refine lv_aload_n (pc := 16) hx hb dX8_number_16 rfl (lv_at hl 0 rfl) ?_
    refine x_get (pc := 17) (ci := 8) (T := TX8) (v := .int t_at) C S 0 rfl rfl inlX8 10 (by decide) rfl qf_8_127 rfl dX8_number_17 ?_
    refine lv_aload_n (pc := 20) hx hb dX8_number_20 rfl (lv_at hl 0 rfl) ?_
    refine x_get (pc := 21) (ci := 8) (T := TX8) (v := .int t_letters) C S 0 rfl rfl inlX8 9 (by decide) rfl qf_8_121 rfl dX8_number_21 ?_
    refine lv_icmp_ge (tgt := 90) (pc := 24) hx hb dX8_number_24 (by decide) (fun c2 => ?_) (fun c2 => ?_)
    · have hf := ifp c2 hf
      exact k_X8_number_90 C (t_isKept) (t_work) (t_kind) (t_letters) (t_at) (t_fault) (t_back) (t_waits) (t_miles) (t_loads) (t_bestRound) (t_bestPlace) (t_bestAdds) (t_regret) (t_z) (t_text) (x2) (x3) (x4) (x5) hf S (lv_sub hl [0, 2, 3, 4, 5] rfl)
    · have hf := ifn c2 hf
      refine lv_aload_n (pc := 27) hx hb dX8_number_27 rfl (lv_at hl 0 rfl) ?_
      refine x_get (pc := 28) (ci := 8) (T := TX8) (v := .int t_at) C S 0 rfl rfl inlX8 10 (by decide) rfl qf_8_127 rfl dX8_number_28 ?_
      refine lv_iload (pc := 31) hx hb dX8_number_31 (lv_at hl 4 rfl) ?_
      refine lv_iload_n (pc := 33) hx hb dX8_number_33 rfl (lv_at hl 1 rfl) ?_
      refine lv_iadd (pc := 34) hx hb dX8_number_34 ?_
      refine lv_icmp_ge (tgt := 90) (pc := 35) hx hb dX8_number_35 (by decide) (fun c3 => ?_) (fun c3 => ?_)
      · have hf := ifp c3 hf
        exact k_X8_number_90 C (t_isKept) (t_work) (t_kind) (t_letters) (t_at) (t_fault) (t_back) (t_waits) (t_miles) (t_loads) (t_bestRound) (t_bestPlace) (t_bestAdds) (t_regret) (t_z) (t_text) (x2) (x3) (x4) (x5) hf S (lv_sub hl [0, 2, 3, 4, 5] rfl)
      · have hf := ifn c3 hf
        refine lv_aload_n (pc := 38) hx hb dX8_number_38 rfl (lv_at hl 0 rfl) ?_
        refine x_get (pc := 39) (ci := 8) (T := TX8) (v := .ref a_t_text) C S 0 rfl rfl inlX8 7 (by decide) rfl qf_8_24 rfl dX8_number_39 ?_
        refine lv_aload_n (pc := 42) hx hb dX8_number_42 rfl (lv_at hl 0 rfl) ?_
        refine x_get (pc := 43) (ci := 8) (T := TX8) (v := .int t_at) C S 0 rfl rfl inlX8 10 (by decide) rfl qf_8_127 rfl dX8_number_43 ?_
        obtain ⟨hv4, hf⟩ := gI_e hf
        refine x_iald (pc := 46) C S 1 rfl hv4 dX8_number_46 ?_
        refine lv_bipush (pc := 47) hx hb dX8_number_47 bc_48 ?_
        refine lv_bipush (pc := 49) hx hb dX8_number_49 bc_57 ?_
        obtain ⟨r5, hq5, hf⟩ := bd_e hf
        refine x_sI (pc := 51) (As := [.int (t_text t_at.toNatClampNeg), .int (48 : Int32), .int (57 : Int32)]) (rest := []) (isC := []) (ws' := (w_X8_number G a_t a_t_s a_t_image a_t_mind a_t_aside a_t_text a_t_read a_t_comes a_t_begins a_t_latest a_t_move a_t_sort a_t_items a_t_cell a_t_carried t_isKept t_work t_kind t_letters t_at t_fault t_back t_waits t_miles t_loads t_bestRound t_bestPlace t_bestAdds t_regret t_z t_text)) C S (c_X8_isIn l G (t_text t_at.toNatClampNeg) (48 : Int32) (57 : Int32) r5 hq5) (u_X8_number_X8_isIn_55 hts) rfl (by decide +kernel) [none, none] (by decide +kernel) rfl rfl rfl hl.1 rfl (Nat.le_of_ble_eq_true rfl) dX8_number_51 (fun H locs S => ?_)
        refine lv_if_eq (tgt := 90) (pc := 54) hx hb dX8_number_54 (by decide) (fun c6 => ?_) (fun c6 => ?_)
        · have hf := ifp c6 hf
          exact k_X8_number_90 C (t_isKept) (t_work) (t_kind) (t_letters) (t_at) (t_fault) (t_back) (t_waits) (t_miles) (t_loads) (t_bestRound) (t_bestPlace) (t_bestAdds) (t_regret) (t_z) (t_text) (x2) (x3) (x4) (x5) hf S (lv_sub hl [0, 2, 3, 4, 5] rfl)
        · have hf := ifn c6 hf
          refine lv_bipush (pc := 57) hx hb dX8_number_57 bc_10 ?_
          refine lv_iload (pc := 59) hx hb dX8_number_59 (lv_at hl 5 rfl) ?_
          refine lv_imul (pc := 61) hx hb dX8_number_61 ?_
          refine lv_aload_n (pc := 62) hx hb dX8_number_62 rfl (lv_at hl 0 rfl) ?_
          refine x_get (pc := 63) (ci := 8) (T := TX8) (v := .ref a_t_text) C S 0 rfl rfl inlX8 7 (by decide) rfl qf_8_24 rfl dX8_number_63 ?_
          refine lv_aload_n (pc := 66) hx hb dX8_number_66 rfl (lv_at hl 0 rfl) ?_
          refine x_get (pc := 67) (ci := 8) (T := TX8) (v := .int t_at) C S 0 rfl rfl inlX8 10 (by decide) rfl qf_8_127 rfl dX8_number_67 ?_
          refine x_iald (pc := 70) C S 1 rfl hv4 dX8_number_70 ?_
          refine lv_iadd (pc := 71) hx hb dX8_number_71 ?_
          refine lv_bipush (pc := 72) hx hb dX8_number_72 bc_48 ?_
          refine lv_isub (pc := 74) hx hb dX8_number_74 ?_
          refine lv_istore (pc := 75) (lv' := [(5, .int ((((10 : Int32) * x5) + (t_text t_at.toNatClampNeg)) - (48 : Int32))), (0, .ref a_t), (1, .int x1), (2, .int x2), (3, .int x3), (4, .int x4)]) hx hb dX8_number_75 hl (by decide) rfl (fun ls hl => ?_)
          refine lv_aload_n (pc := 77) hx hb dX8_number_77 rfl (lv_at hl 1 rfl) ?_
          refine lv_dup (pc := 78) hx hb dX8_number_78 rfl ?_
          refine x_get (pc := 79) (ci := 8) (T := TX8) (v := .int t_at) C S 0 rfl rfl inlX8 10 (by decide) rfl qf_8_127 rfl dX8_number_79 ?_
          refine lv_iconst (pc := 82) hx hb dX8_number_82 ic_1 ?_
          refine lv_iadd (pc := 83) hx hb dX8_number_83 ?_
          refine x_put (pc := 84) (ci := 8) (T := TX8) (ws' := (w_X8_number G a_t a_t_s a_t_image a_t_mind a_t_aside a_t_text a_t_read a_t_comes a_t_begins a_t_latest a_t_move a_t_sort a_t_items a_t_cell a_t_carried t_isKept t_work t_kind t_letters (t_at + (1 : Int32)) t_fault t_back t_waits t_miles t_loads t_bestRound t_bestPlace t_bestAdds t_regret t_z t_text)) C S tyX8 tyX8_ok nmX8 0 rfl rfl inlX8 10 (by decide) rfl qf_8_127 rfl rfl rfl rfl (Nat.le_of_ble_eq_true rfl) rfl dX8_number_84 (fun H locs S => ?_)
          refine lv_goto (tgt := 9) (pc := 87) hx hb dX8_number_87 (by decide) ?_
          exact hk9 (((((10 : Int32) * x5) + (t_text t_at.toNatClampNeg)) - (48 : Int32))) ((t_at + (1 : Int32)))  hf S (lv_sub hl [1, 2, 3, 4, 5, 0] rfl)
set_option maxRecDepth 100000 in
set_option maxHeartbeats 4000000 in
theorem h_X8_number_9 (C : Cx p s m args meth c cX8_number (some .int) 6 RX8 G A) (t_isKept : Int32) (t_work : Int32) (t_kind : Int32) (t_letters : Int32) (t_fault : Int32) (t_back : Int32) (t_waits : Int32) (t_miles : Int32) (t_loads : Int32) (t_bestRound : Int32) (t_bestPlace : Int32) (t_bestAdds : Int32) (t_regret : Int32) (t_z : Int32) (t_text : Nat → Int32) (x1 : Int32) (x2 : Int32) (x3 : Int32) (x4 : Int32) : ∀ (n : Nat) (x5 : Int32) (t_at : Int32) {H : Heap} {locs : List Loc} {ls : Array Slot} (hf : lp (fun k x => b_X8_number_9 x1 x2 x3 x4 t_text t_letters t_fault k x.1 x.2) n (x5, t_at) = some (r, z_t_at, z_t_fault)) (S : St G A s.heap H locs (w_X8_number G a_t a_t_s a_t_image a_t_mind a_t_aside a_t_text a_t_read a_t_comes a_t_begins a_t_latest a_t_move a_t_sort a_t_items a_t_cell a_t_carried t_isKept t_work t_kind t_letters t_at t_fault t_back t_waits t_miles t_loads t_bestRound t_bestPlace t_bestAdds t_regret t_z t_text)) (hl : lv_has ls 6 [(0, .ref a_t), (1, .int x1), (2, .int x2), (3, .int x3), (4, .int x4), (5, .int x5)]), W p l e rm_X8_number s m args below meth c H locs 0 0 (QI G below args s A r (w_X8_number G a_t a_t_s a_t_image a_t_mind a_t_aside a_t_text a_t_read a_t_comes a_t_begins a_t_latest a_t_move a_t_sort a_t_items a_t_cell a_t_carried t_isKept t_work t_kind t_letters z_t_at z_t_fault t_back t_waits t_miles t_loads t_bestRound t_bestPlace t_bestAdds t_regret t_z t_text)) (F0 m 9 ls []) := by
  intro n
  induction n with
  | zero =>
    intro x5 t_at  H locs ls hf
    cases hf
  | succ n ih =>
    intro x5 t_at  H locs ls hf S hl
    have hf : b_X8_number_9 x1 x2 x3 x4 t_text t_letters t_fault (lp (fun k x => b_X8_number_9 x1 x2 x3 x4 t_text t_letters t_fault k x.1 x.2) n) x5 t_at = some (r, z_t_at, z_t_fault) := hf
    exact k_X8_number_9 C t_isKept t_work t_kind t_letters t_at t_fault t_back t_waits t_miles t_loads t_bestRound t_bestPlace t_bestAdds t_regret t_z t_text x1 x2 x3 x4 x5  (lp (fun k x => b_X8_number_9 x1 x2 x3 x4 t_text t_letters t_fault k x.1 x.2) n) (fun x5' t_at'  h S hl => ih x5' t_at'  h S hl) hf S hl
set_option maxRecDepth 100000 in
set_option maxHeartbeats 4000000 in
theorem c_X8_number (l : Launch) (G : GE) (a_t a_t_s a_t_image a_t_mind a_t_aside a_t_text a_t_read a_t_comes a_t_begins a_t_latest a_t_move a_t_sort a_t_items a_t_cell a_t_carried : Nat) (t_isKept : Int32) (t_work : Int32) (t_kind : Int32) (t_letters : Int32) (t_at : Int32) (t_fault : Int32) (t_back : Int32) (t_waits : Int32) (t_miles : Int32) (t_loads : Int32) (t_bestRound : Int32) (t_bestPlace : Int32) (t_bestAdds : Int32) (t_regret : Int32) (t_z : Int32) (t_text : Nat → Int32) (x1 : Int32) (x2 : Int32) (x3 : Int32) (r : Int32) (z_t_at : Int32) (z_t_fault : Int32) (hf : f_X8_number t_text t_letters t_at t_fault x1 x2 x3 = some (r, z_t_at, z_t_fault)) : CI l G yX8_number kw_X8_number rm_X8_number [.ref a_t, .int x1, .int x2, .int x3] (w_X8_number G a_t a_t_s a_t_image a_t_mind a_t_aside a_t_text a_t_read a_t_comes a_t_begins a_t_latest a_t_move a_t_sort a_t_items a_t_cell a_t_carried t_isKept t_work t_kind t_letters t_at t_fault t_back t_waits t_miles t_loads t_bestRound t_bestPlace t_bestAdds t_regret t_z t_text) r (w_X8_number G a_t a_t_s a_t_image a_t_mind a_t_aside a_t_text a_t_read a_t_comes a_t_begins a_t_latest a_t_move a_t_sort a_t_items a_t_cell a_t_carried t_isKept t_work t_kind t_letters z_t_at z_t_fault t_back t_waits t_miles t_loads t_bestRound t_bestPlace t_bestAdds t_regret t_z t_text) := by
  refine en_I (cc := cX8_number) (maxL := 6) (ret := (some .int)) (by decide +kernel) (Nat.le_of_ble_eq_true rfl) ?_
  intro p e s m args below meth c A ls C S hl
  have hl : lv_has ls 6 [(0, .ref a_t), (1, .int x1), (2, .int x2), (3, .int x3)] := hl
  have C : Cx p s m args meth c cX8_number (some .int) 6 RX8 G A := C
  unfold f_X8_number at hf
  have hx := C.1
  have hb := C.2.1
  have hown := C.2.2.2.2.1
  have hts := C.2.2.2.2.2.1
  have hN := C.2.2.2.2.2.2.2.2.2.2
  refine lv_aload_n (pc := 0) hx hb dX8_number_0 rfl (lv_at hl 0 rfl) ?_
  refine x_get (pc := 1) (ci := 8) (T := TX8) (v := .int t_at) C S 0 rfl rfl inlX8 10 (by decide) rfl qf_8_127 rfl dX8_number_1 ?_
  refine lv_istore (pc := 4) (lv' := [(4, .int t_at), (0, .ref a_t), (1, .int x1), (2, .int x2), (3, .int x3)]) hx hb dX8_number_4 hl (by decide) rfl (fun ls hl => ?_)
  refine lv_iconst (pc := 6) hx hb dX8_number_6 ic_0 ?_
  refine lv_istore (pc := 7) (lv' := [(5, .int (0 : Int32)), (4, .int t_at), (0, .ref a_t), (1, .int x1), (2, .int x2), (3, .int x3)]) hx hb dX8_number_7 hl (by decide) rfl (fun ls hl => ?_)
  exact h_X8_number_9 C (t_isKept) (t_work) (t_kind) (t_letters) (t_fault) (t_back) (t_waits) (t_miles) (t_loads) (t_bestRound) (t_bestPlace) (t_bestAdds) (t_regret) (t_z) (t_text) (x1) (x2) (x3) (t_at) fu ((0 : Int32)) (t_at) hf S (lv_sub hl [2, 3, 4, 5, 1, 0] rfl)
end

abbrev rm_X8_takes : Room := { frames := 0, cells := 0, slots := 0, locals := 0 }
abbrev kw_X8_takes : Cond := .code yX8_takes cX8_takes 3 (some .boolean)
abbrev w_X8_takes (G : GE) (a_t a_t_s a_t_image a_t_mind a_t_aside a_t_text a_t_read a_t_comes a_t_begins a_t_latest a_t_move a_t_sort a_t_items a_t_cell a_t_carried : Nat) (t_isKept : Int32) (t_work : Int32) (t_kind : Int32) (t_letters : Int32) (t_at : Int32) (t_fault : Int32) (t_back : Int32) (t_waits : Int32) (t_miles : Int32) (t_loads : Int32) (t_bestRound : Int32) (t_bestPlace : Int32) (t_bestAdds : Int32) (t_regret : Int32) (t_z : Int32) (t_text : Nat → Int32) : va_W := [(a_t, ob 8 [.ref a_t_s, .ref a_t_image, .ref a_t_mind, .ref a_t_aside, .int t_isKept, .int t_work, .int t_kind, .ref a_t_text, .ref a_t_read, .int t_letters, .int t_at, .int t_fault, .ref a_t_comes, .ref a_t_begins, .ref a_t_latest, .int t_back, .int t_waits, .int t_miles, .int t_loads, .int t_bestRound, .int t_bestPlace, .int t_bestAdds, .int t_regret, .ref a_t_move, .ref a_t_sort, .ref a_t_items, .ref a_t_cell, .ref a_t_carried, .int t_z]), (a_t_text, aI G 100 t_text)]
section
variable {p : Program} {l : Launch} {e : Env} {s : State} {m : MethodId} {args : Array Value} {below : List Frame} {meth : Method} {c : Code} {A : Nat → Prop} {G : GE} {a_t a_t_s a_t_image a_t_mind a_t_aside a_t_text a_t_read a_t_comes a_t_begins a_t_latest a_t_move a_t_sort a_t_items a_t_cell a_t_carried : Nat} {r : Int32} {z_t_at : Int32}
set_option maxRecDepth 100000 in
set_option maxHeartbeats 4000000 in
theorem k_X8_takes_51 (C : Cx p s m args meth c cX8_takes (some .boolean) 3 RX8 G A) (t_isKept : Int32) (t_work : Int32) (t_kind : Int32) (t_letters : Int32) (t_at : Int32) (t_fault : Int32) (t_back : Int32) (t_waits : Int32) (t_miles : Int32) (t_loads : Int32) (t_bestRound : Int32) (t_bestPlace : Int32) (t_bestAdds : Int32) (t_regret : Int32) (t_z : Int32) (t_text : Nat → Int32) (x2 : Int32) (y1 : Int32) (y2 : Int32) {H : Heap} {locs : List Loc} {ls : Array Slot} (hf : b_X8_takes_51 x2 y1 y2 = some (r, z_t_at)) (S : St G A s.heap H locs (w_X8_takes G a_t a_t_s a_t_image a_t_mind a_t_aside a_t_text a_t_read a_t_comes a_t_begins a_t_latest a_t_move a_t_sort a_t_items a_t_cell a_t_carried t_isKept t_work t_kind t_letters t_at t_fault t_back t_waits t_miles t_loads t_bestRound t_bestPlace t_bestAdds t_regret t_z t_text)) (hl : lv_has ls 3 [(2, .int x2)]) : W p l e rm_X8_takes s m args below meth c H locs 0 0 (QI G below args s A r (w_X8_takes G a_t a_t_s a_t_image a_t_mind a_t_aside a_t_text a_t_read a_t_comes a_t_begins a_t_latest a_t_move a_t_sort a_t_items a_t_cell a_t_carried t_isKept t_work t_kind t_letters z_t_at t_fault t_back t_waits t_miles t_loads t_bestRound t_bestPlace t_bestAdds t_regret t_z t_text)) (F0 m 51 ls [.int y2, .int y1, .ref a_t]) := by
  unfold b_X8_takes_51 at hf
  have hx := C.1
  have hb := C.2.1
  have hown := C.2.2.2.2.1
  have hts := C.2.2.2.2.2.1
  have hN := C.2.2.2.2.2.2.2.2.2.2
  refine lv_iadd (pc := 51) hx hb dX8_takes_51 ?_
  refine x_put (pc := 52) (ci := 8) (T := TX8) (ws' := (w_X8_takes G a_t a_t_s a_t_image a_t_mind a_t_aside a_t_text a_t_read a_t_comes a_t_begins a_t_latest a_t_move a_t_sort a_t_items a_t_cell a_t_carried t_isKept t_work t_kind t_letters (y1 + y2) t_fault t_back t_waits t_miles t_loads t_bestRound t_bestPlace t_bestAdds t_regret t_z t_text)) C S tyX8 tyX8_ok nmX8 0 rfl rfl inlX8 10 (by decide) rfl qf_8_127 rfl rfl rfl rfl (Nat.le_of_ble_eq_true rfl) rfl dX8_takes_52 (fun H locs S => ?_)
  refine lv_iload_n (pc := 55) hx hb dX8_takes_55 rfl (lv_at hl 0 rfl) ?_
  obtain ⟨hz1, hf⟩ := gd_e hf
  cases hf
  exact x_zret (pc := 56) hz1 C S dX8_takes_56
set_option maxRecDepth 100000 in
set_option maxHeartbeats 4000000 in
theorem k_X8_takes_36 (C : Cx p s m args meth c cX8_takes (some .boolean) 3 RX8 G A) (t_isKept : Int32) (t_work : Int32) (t_kind : Int32) (t_letters : Int32) (t_at : Int32) (t_fault : Int32) (t_back : Int32) (t_waits : Int32) (t_miles : Int32) (t_loads : Int32) (t_bestRound : Int32) (t_bestPlace : Int32) (t_bestAdds : Int32) (t_regret : Int32) (t_z : Int32) (t_text : Nat → Int32) (y0 : Int32) {H : Heap} {locs : List Loc} {ls : Array Slot} (hf : b_X8_takes_36 y0 t_at = some (r, z_t_at)) (S : St G A s.heap H locs (w_X8_takes G a_t a_t_s a_t_image a_t_mind a_t_aside a_t_text a_t_read a_t_comes a_t_begins a_t_latest a_t_move a_t_sort a_t_items a_t_cell a_t_carried t_isKept t_work t_kind t_letters t_at t_fault t_back t_waits t_miles t_loads t_bestRound t_bestPlace t_bestAdds t_regret t_z t_text)) (hl : lv_has ls 3 [(0, .ref a_t)]) : W p l e rm_X8_takes s m args below meth c H locs 0 0 (QI G below args s A r (w_X8_takes G a_t a_t_s a_t_image a_t_mind a_t_aside a_t_text a_t_read a_t_comes a_t_begins a_t_latest a_t_move a_t_sort a_t_items a_t_cell a_t_carried t_isKept t_work t_kind t_letters z_t_at t_fault t_back t_waits t_miles t_loads t_bestRound t_bestPlace t_bestAdds t_regret t_z t_text)) (F0 m 36 ls [.int y0]) := by
  unfold b_X8_takes_36 at hf
  have hx := C.1
  have hb := C.2.1
  have hown := C.2.2.2.2.1
  have hts := C.2.2.2.2.2.1
  have hN := C.2.2.2.2.2.2.2.2.2.2
  refine lv_istore_n (pc := 36) (lv' := [(2, .int y0), (0, .ref a_t)]) hx hb dX8_takes_36 rfl hl (by decide) rfl (fun ls hl => ?_)
  refine lv_aload_n (pc := 37) hx hb dX8_takes_37 rfl (lv_at hl 1 rfl) ?_
  refine lv_dup (pc := 38) hx hb dX8_takes_38 rfl ?_
  refine x_get (pc := 39) (ci := 8) (T := TX8) (v := .int t_at) C S 0 rfl rfl inlX8 10 (by decide) rfl qf_8_127 rfl dX8_takes_39 ?_
  refine lv_iload_n (pc := 42) hx hb dX8_takes_42 rfl (lv_at hl 0 rfl) ?_
  refine lv_if_eq (tgt := 50) (pc := 43) hx hb dX8_takes_43 (by decide) (fun c1 => ?_) (fun c1 => ?_)
  · have hf := ifp c1 hf
    refine lv_iconst (pc := 50) hx hb dX8_takes_50 ic_0 ?_
    exact k_X8_takes_51 C (t_isKept) (t_work) (t_kind) (t_letters) (t_at) (t_fault) (t_back) (t_waits) (t_miles) (t_loads) (t_bestRound) (t_bestPlace) (t_bestAdds) (t_regret) (t_z) (t_text) (y0) (t_at) ((0 : Int32)) hf S (lv_sub hl [0] rfl)
  · have hf := ifn c1 hf
    refine lv_iconst (pc := 46) hx hb dX8_takes_46 ic_1 ?_
    refine lv_goto (tgt := 51) (pc := 47) hx hb dX8_takes_47 (by decide) ?_
    exact k_X8_takes_51 C (t_isKept) (t_work) (t_kind) (t_letters) (t_at) (t_fault) (t_back) (t_waits) (t_miles) (t_loads) (t_bestRound) (t_bestPlace) (t_bestAdds) (t_regret) (t_z) (t_text) (y0) (t_at) ((1 : Int32)) hf S (lv_sub hl [0] rfl)
set_option maxRecDepth 100000 in
set_option maxHeartbeats 4000000 in
theorem k_X8_takes_35 (C : Cx p s m args meth c cX8_takes (some .boolean) 3 RX8 G A) (t_isKept : Int32) (t_work : Int32) (t_kind : Int32) (t_letters : Int32) (t_at : Int32) (t_fault : Int32) (t_back : Int32) (t_waits : Int32) (t_miles : Int32) (t_loads : Int32) (t_bestRound : Int32) (t_bestPlace : Int32) (t_bestAdds : Int32) (t_regret : Int32) (t_z : Int32) (t_text : Nat → Int32) {H : Heap} {locs : List Loc} {ls : Array Slot} (hf : b_X8_takes_35 t_at = some (r, z_t_at)) (S : St G A s.heap H locs (w_X8_takes G a_t a_t_s a_t_image a_t_mind a_t_aside a_t_text a_t_read a_t_comes a_t_begins a_t_latest a_t_move a_t_sort a_t_items a_t_cell a_t_carried t_isKept t_work t_kind t_letters t_at t_fault t_back t_waits t_miles t_loads t_bestRound t_bestPlace t_bestAdds t_regret t_z t_text)) (hl : lv_has ls 3 [(0, .ref a_t)]) : W p l e rm_X8_takes s m args below meth c H locs 0 0 (QI G below args s A r (w_X8_takes G a_t a_t_s a_t_image a_t_mind a_t_aside a_t_text a_t_read a_t_comes a_t_begins a_t_latest a_t_move a_t_sort a_t_items a_t_cell a_t_carried t_isKept t_work t_kind t_letters z_t_at t_fault t_back t_waits t_miles t_loads t_bestRound t_bestPlace t_bestAdds t_regret t_z t_text)) (F0 m 35 ls []) := by
  unfold b_X8_takes_35 at hf
  have hx := C.1
  have hb := C.2.1
  have hown := C.2.2.2.2.1
  have hts := C.2.2.2.2.2.1
  have hN := C.2.2.2.2.2.2.2.2.2.2
  refine lv_iconst (pc := 35) hx hb dX8_takes_35 ic_0 ?_
  exact k_X8_takes_36 C (t_isKept) (t_work) (t_kind) (t_letters) (t_at) (t_fault) (t_back) (t_waits) (t_miles) (t_loads) (t_bestRound) (t_bestPlace) (t_bestAdds) (t_regret) (t_z) (t_text) ((0 : Int32)) hf S (lv_sub hl [0] rfl)
set_option maxRecDepth 100000 in
set_option maxHeartbeats 4000000 in
theorem c_X8_takes (l : Launch) (G : GE) (a_t a_t_s a_t_image a_t_mind a_t_aside a_t_text a_t_read a_t_comes a_t_begins a_t_latest a_t_move a_t_sort a_t_items a_t_cell a_t_carried : Nat) (t_isKept : Int32) (t_work : Int32) (t_kind : Int32) (t_letters : Int32) (t_at : Int32) (t_fault : Int32) (t_back : Int32) (t_waits : Int32) (t_miles : Int32) (t_loads : Int32) (t_bestRound : Int32) (t_bestPlace : Int32) (t_bestAdds : Int32) (t_regret : Int32) (t_z : Int32) (t_text : Nat → Int32) (x1 : Int32) (r : Int32) (z_t_at : Int32) (hf : f_X8_takes t_text t_letters t_at t_fault x1 = some (r, z_t_at)) : CI l G yX8_takes kw_X8_takes rm_X8_takes [.ref a_t, .int x1] (w_X8_takes G a_t a_t_s a_t_image a_t_mind a_t_aside a_t_text a_t_read a_t_comes a_t_begins a_t_latest a_t_move a_t_sort a_t_items a_t_cell a_t_carried t_isKept t_work t_kind t_letters t_at t_fault t_back t_waits t_miles t_loads t_bestRound t_bestPlace t_bestAdds t_regret t_z t_text) r (w_X8_takes G a_t a_t_s a_t_image a_t_mind a_t_aside a_t_text a_t_read a_t_comes a_t_begins a_t_latest a_t_move a_t_sort a_t_items a_t_cell a_t_carried t_isKept t_work t_kind t_letters z_t_at t_fault t_back t_waits t_miles t_loads t_bestRound t_bestPlace t_bestAdds t_regret t_z t_text) := by
  refine en_I (cc := cX8_takes) (maxL := 3) (ret := (some .boolean)) (by decide +kernel) (Nat.le_of_ble_eq_true rfl) ?_
  intro p e s m args below meth c A ls C S hl
  have hl : lv_has ls 3 [(0, .ref a_t), (1, .int x1)] := hl
  have C : Cx p s m args meth c cX8_takes (some .boolean) 3 RX8 G A := C
  unfold f_X8_takes at hf
  have hx := C.1
  have hb := C.2.1
  have hown := C.2.2.2.2.1
  have hts := C.2.2.2.2.2.1
  have hN := C.2.2.2.2.2.2.2.2.2.2
  refine lv_aload_n (pc := 0) hx hb dX8_takes_0 rfl (lv_at hl 0 rfl) ?_
  refine x_get (pc := 1) (ci := 8) (T := TX8) (v := .int t_fault) C S 0 rfl rfl inlX8 11 (by decide) rfl qf_8_124 rfl dX8_takes_1 ?_
  refine lv_if_ge (tgt := 35) (pc := 4) hx hb dX8_takes_4 (by decide) (fun c1 => ?_) (fun c1 => ?_)
  · have hf := ifp c1 hf
    exact k_X8_takes_35 C (t_isKept) (t_work) (t_kind) (t_letters) (t_at) (t_fault) (t_back) (t_waits) (t_miles) (t_loads) (t_bestRound) (t_bestPlace) (t_bestAdds) (t_regret) (t_z) (t_text) hf S (lv_sub hl [0] rfl)
  · have hf := ifn c1 hf
    refine lv_aload_n (pc := 7) hx hb dX8_takes_7 rfl (lv_at hl 0 rfl) ?_
    refine x_get (pc := 8) (ci := 8) (T := TX8) (v := .int t_at) C S 0 rfl rfl inlX8 10 (by decide) rfl qf_8_127 rfl dX8_takes_8 ?_
    refine lv_aload_n (pc := 11) hx hb dX8_takes_11 rfl (lv_at hl 0 rfl) ?_
    refine x_get (pc := 12) (ci := 8) (T := TX8) (v := .int t_letters) C S 0 rfl rfl inlX8 9 (by decide) rfl qf_8_121 rfl dX8_takes_12 ?_
    refine lv_icmp_ge (tgt := 35) (pc := 15) hx hb dX8_takes_15 (by decide) (fun c2 => ?_) (fun c2 => ?_)
    · have hf := ifp c2 hf
      exact k_X8_takes_35 C (t_isKept) (t_work) (t_kind) (t_letters) (t_at) (t_fault) (t_back) (t_waits) (t_miles) (t_loads) (t_bestRound) (t_bestPlace) (t_bestAdds) (t_regret) (t_z) (t_text) hf S (lv_sub hl [0] rfl)
    · have hf := ifn c2 hf
      refine lv_aload_n (pc := 18) hx hb dX8_takes_18 rfl (lv_at hl 0 rfl) ?_
      refine x_get (pc := 19) (ci := 8) (T := TX8) (v := .ref a_t_text) C S 0 rfl rfl inlX8 7 (by decide) rfl qf_8_24 rfl dX8_takes_19 ?_
      refine lv_aload_n (pc := 22) hx hb dX8_takes_22 rfl (lv_at hl 0 rfl) ?_
      refine x_get (pc := 23) (ci := 8) (T := TX8) (v := .int t_at) C S 0 rfl rfl inlX8 10 (by decide) rfl qf_8_127 rfl dX8_takes_23 ?_
      obtain ⟨hv3, hf⟩ := gI_e hf
      refine x_iald (pc := 26) C S 1 rfl hv3 dX8_takes_26 ?_
      refine lv_iload_n (pc := 27) hx hb dX8_takes_27 rfl (lv_at hl 1 rfl) ?_
      refine lv_icmp_ne (tgt := 35) (pc := 28) hx hb dX8_takes_28 (by decide) (fun c4 => ?_) (fun c4 => ?_)
      · have hf := ifn c4 hf
        exact k_X8_takes_35 C (t_isKept) (t_work) (t_kind) (t_letters) (t_at) (t_fault) (t_back) (t_waits) (t_miles) (t_loads) (t_bestRound) (t_bestPlace) (t_bestAdds) (t_regret) (t_z) (t_text) hf S (lv_sub hl [0] rfl)
      · have hf := ifp c4 hf
        refine lv_iconst (pc := 31) hx hb dX8_takes_31 ic_1 ?_
        refine lv_goto (tgt := 36) (pc := 32) hx hb dX8_takes_32 (by decide) ?_
        exact k_X8_takes_36 C (t_isKept) (t_work) (t_kind) (t_letters) (t_at) (t_fault) (t_back) (t_waits) (t_miles) (t_loads) (t_bestRound) (t_bestPlace) (t_bestAdds) (t_regret) (t_z) (t_text) ((1 : Int32)) hf S (lv_sub hl [0] rfl)
end

abbrev rm_X8_needs : Room := { frames := 1, cells := 0, slots := 0, locals := 22 }
abbrev kw_X8_needs : Cond := .code yX8_needs cX8_needs 2 none
abbrev w_X8_needs (G : GE) (a_t a_t_s a_t_image a_t_mind a_t_aside a_t_text a_t_read a_t_comes a_t_begins a_t_latest a_t_move a_t_sort a_t_items a_t_cell a_t_carried : Nat) (t_isKept : Int32) (t_work : Int32) (t_kind : Int32) (t_letters : Int32) (t_at : Int32) (t_fault : Int32) (t_back : Int32) (t_waits : Int32) (t_miles : Int32) (t_loads : Int32) (t_bestRound : Int32) (t_bestPlace : Int32) (t_bestAdds : Int32) (t_regret : Int32) (t_z : Int32) (t_text : Nat → Int32) : va_W := [(a_t, ob 8 [.ref a_t_s, .ref a_t_image, .ref a_t_mind, .ref a_t_aside, .int t_isKept, .int t_work, .int t_kind, .ref a_t_text, .ref a_t_read, .int t_letters, .int t_at, .int t_fault, .ref a_t_comes, .ref a_t_begins, .ref a_t_latest, .int t_back, .int t_waits, .int t_miles, .int t_loads, .int t_bestRound, .int t_bestPlace, .int t_bestAdds, .int t_regret, .ref a_t_move, .ref a_t_sort, .ref a_t_items, .ref a_t_cell, .ref a_t_carried, .int t_z]), (a_t_text, aI G 100 t_text)]
theorem u_X8_needs_X8_takes_130 {s : State} {args : Array Value} (hts : ∀ w ∈ WU, w.before args s = true) : CallW rm_X8_needs s args RX8 RX8 130 yX8_takes cX8_takes 3 (some .boolean) (kw_X8_takes :: WU) rm_X8_takes 0 0 1 := cwV 1 hts (gV qm_8_130 qi_X8_takes ql_X8_takes qn_8 qc_X8_takes) rfl rfl rfl (by decide +kernel) ⟨Nat.le_of_ble_eq_true rfl, Nat.le_of_ble_eq_true rfl⟩
theorem u_X8_needs_X8_fails_133 {s : State} {args : Array Value} (hts : ∀ w ∈ WU, w.before args s = true) : CallW rm_X8_needs s args RX8 RX8 133 yX8_fails cX8_fails 2 none (kw_X8_fails :: WU) rm_X8_fails 0 0 1 := cwV 1 hts (gV qm_8_133 qi_X8_fails ql_X8_fails qn_8 qc_X8_fails) rfl rfl rfl (by decide +kernel) ⟨Nat.le_of_ble_eq_true rfl, Nat.le_of_ble_eq_true rfl⟩
section
variable {p : Program} {l : Launch} {e : Env} {s : State} {m : MethodId} {args : Array Value} {below : List Frame} {meth : Method} {c : Code} {A : Nat → Prop} {G : GE} {a_t a_t_s a_t_image a_t_mind a_t_aside a_t_text a_t_read a_t_comes a_t_begins a_t_latest a_t_move a_t_sort a_t_items a_t_cell a_t_carried : Nat} {z_t_at : Int32} {z_t_fault : Int32}
set_option maxRecDepth 100000 in
set_option maxHeartbeats 4000000 in
theorem c_X8_needs (l : Launch) (G : GE) (a_t a_t_s a_t_image a_t_mind a_t_aside a_t_text a_t_read a_t_comes a_t_begins a_t_latest a_t_move a_t_sort a_t_items a_t_cell a_t_carried : Nat) (t_isKept : Int32) (t_work : Int32) (t_kind : Int32) (t_letters : Int32) (t_at : Int32) (t_fault : Int32) (t_back : Int32) (t_waits : Int32) (t_miles : Int32) (t_loads : Int32) (t_bestRound : Int32) (t_bestPlace : Int32) (t_bestAdds : Int32) (t_regret : Int32) (t_z : Int32) (t_text : Nat → Int32) (x1 : Int32) (z_t_at : Int32) (z_t_fault : Int32) (hf : f_X8_needs t_text t_letters t_at t_fault x1 = some (z_t_at, z_t_fault)) : CV l G yX8_needs kw_X8_needs rm_X8_needs [.ref a_t, .int x1] (w_X8_needs G a_t a_t_s a_t_image a_t_mind a_t_aside a_t_text a_t_read a_t_comes a_t_begins a_t_latest a_t_move a_t_sort a_t_items a_t_cell a_t_carried t_isKept t_work t_kind t_letters t_at t_fault t_back t_waits t_miles t_loads t_bestRound t_bestPlace t_bestAdds t_regret t_z t_text) (w_X8_needs G a_t a_t_s a_t_image a_t_mind a_t_aside a_t_text a_t_read a_t_comes a_t_begins a_t_latest a_t_move a_t_sort a_t_items a_t_cell a_t_carried t_isKept t_work t_kind t_letters z_t_at z_t_fault t_back t_waits t_miles t_loads t_bestRound t_bestPlace t_bestAdds t_regret t_z t_text) := by
  refine en_V (cc := cX8_needs) (maxL := 2) (ret := none) (by decide +kernel) (Nat.le_of_ble_eq_true rfl) ?_
  intro p e s m args below meth c A ls C S hl
  have hl : lv_has ls 2 [(0, .ref a_t), (1, .int x1)] := hl
  have C : Cx p s m args meth c cX8_needs none 2 RX8 G A := C
  unfold f_X8_needs at hf
  have hx := C.1
  have hb := C.2.1
  have hown := C.2.2.2.2.1
  have hts := C.2.2.2.2.2.1
  have hN := C.2.2.2.2.2.2.2.2.2.2
  refine lv_aload_n (pc := 0) hx hb dX8_needs_0 rfl (lv_at hl 0 rfl) ?_
  refine lv_iload_n (pc := 1) hx hb dX8_needs_1 rfl (lv_at hl 1 rfl) ?_
  obtain ⟨⟨r1, o1_t_at⟩, hq1, hf⟩ := bd_e hf
  refine x_vI (pc := 2) (As := [.int x1]) (rest := []) (isC := [0, 1]) (ws' := (w_X8_needs G a_t a_t_s a_t_image a_t_mind a_t_aside a_t_text a_t_read a_t_comes a_t_begins a_t_latest a_t_move a_t_sort a_t_items a_t_cell a_t_carried t_isKept t_work t_kind t_letters o1_t_at t_fault t_back t_waits t_miles t_loads t_bestRound t_bestPlace t_bestAdds t_regret t_z t_text)) C S (c_X8_takes l G a_t a_t_s a_t_image a_t_mind a_t_aside a_t_text a_t_read a_t_comes a_t_begins a_t_latest a_t_move a_t_sort a_t_items a_t_cell a_t_carried t_isKept t_work t_kind t_letters t_at t_fault t_back t_waits t_miles t_loads t_bestRound t_bestPlace t_bestAdds t_regret t_z t_text x1 r1 o1_t_at hq1) (u_X8_needs_X8_takes_130 hts) (ci := 8) rfl 0 rfl rfl (by decide +kernel) [some 0, some 1] (by decide +kernel) rfl rfl rfl hl.1 rfl (Nat.le_of_ble_eq_true rfl) dX8_needs_2 (fun H locs S => ?_)
  refine lv_if_ne (tgt := 16) (pc := 5) hx hb dX8_needs_5 (by decide) (fun c2 => ?_) (fun c2 => ?_)
  · have hf := ifn c2 hf
    cases hf
    exact x_vret (pc := 16) C S dX8_needs_16
  · have hf := ifp c2 hf
    refine lv_aload_n (pc := 8) hx hb dX8_needs_8 rfl (lv_at hl 0 rfl) ?_
    refine lv_aload_n (pc := 9) hx hb dX8_needs_9 rfl (lv_at hl 0 rfl) ?_
    refine x_get (pc := 10) (ci := 8) (T := TX8) (v := .int o1_t_at) C S 0 rfl rfl inlX8 10 (by decide) rfl qf_8_127 rfl dX8_needs_10 ?_
    obtain ⟨o3_t_fault, hq3, hf⟩ := bd_e hf
    refine x_vV (pc := 13) (As := [.int o1_t_at]) (rest := []) (isC := [0]) (ws' := (w_X8_needs G a_t a_t_s a_t_image a_t_mind a_t_aside a_t_text a_t_read a_t_comes a_t_begins a_t_latest a_t_move a_t_sort a_t_items a_t_cell a_t_carried t_isKept t_work t_kind t_letters o1_t_at o3_t_fault t_back t_waits t_miles t_loads t_bestRound t_bestPlace t_bestAdds t_regret t_z t_text)) C S (c_X8_fails l G a_t a_t_s a_t_image a_t_mind a_t_aside a_t_text a_t_read a_t_comes a_t_begins a_t_latest a_t_move a_t_sort a_t_items a_t_cell a_t_carried t_isKept t_work t_kind t_letters o1_t_at t_fault t_back t_waits t_miles t_loads t_bestRound t_bestPlace t_bestAdds t_regret t_z o1_t_at o3_t_fault hq3) (u_X8_needs_X8_fails_133 hts) (ci := 8) rfl 0 rfl rfl (by decide +kernel) [some 0, none] (by decide +kernel) rfl rfl rfl hl.1 rfl (Nat.le_of_ble_eq_true rfl) dX8_needs_13 (fun H locs S => ?_)
    cases hf
    exact x_vret (pc := 16) C S dX8_needs_16
end

abbrev rm_X8_clause : Room := { frames := 2, cells := 0, slots := 0, locals := 47 }
abbrev kw_X8_clause : Cond := .code yX8_clause cX8_clause 3 none
abbrev w_X8_clause (G : GE) (a_t a_t_s a_t_image a_t_mind a_t_aside a_t_text a_t_read a_t_comes a_t_begins a_t_latest a_t_move a_t_sort a_t_items a_t_cell a_t_carried : Nat) (t_isKept : Int32) (t_work : Int32) (t_kind : Int32) (t_letters : Int32) (t_at : Int32) (t_fault : Int32) (t_back : Int32) (t_waits : Int32) (t_miles : Int32) (t_loads : Int32) (t_bestRound : Int32) (t_bestPlace : Int32) (t_bestAdds : Int32) (t_regret : Int32) (t_z : Int32) (t_text : Nat → Int32) (t_read : Nat → Int32) : va_W := [(a_t, ob 8 [.ref a_t_s, .ref a_t_image, .ref a_t_mind, .ref a_t_aside, .int t_isKept, .int t_work, .int t_kind, .ref a_t_text, .ref a_t_read, .int t_letters, .int t_at, .int t_fault, .ref a_t_comes, .ref a_t_begins, .ref a_t_latest, .int t_back, .int t_waits, .int t_miles, .int t_loads, .int t_bestRound, .int t_bestPlace, .int t_bestAdds, .int t_regret, .ref a_t_move, .ref a_t_sort, .ref a_t_items, .ref a_t_cell, .ref a_t_carried, .int t_z]), (a_t_text, aI G 100 t_text), (a_t_read, aI G 36 t_read)]
theorem u_X8_clause_X8_number_137 {s : State} {args : Array Value} (hts : ∀ w ∈ WU, w.before args s = true) : CallW rm_X8_clause s args RX8 RX8 137 yX8_number cX8_number 6 (some .int) (kw_X8_number :: WU) rm_X8_number 0 0 3 := cwV 3 hts (gV qm_8_137 qi_X8_number ql_X8_number qn_8 qc_X8_number) rfl rfl rfl (by decide +kernel) ⟨Nat.le_of_ble_eq_true rfl, Nat.le_of_ble_eq_true rfl⟩
theorem u_X8_clause_X8_needs_141 {s : State} {args : Array Value} (hts : ∀ w ∈ WU, w.before args s = true) : CallW rm_X8_clause s args RX8 RX8 141 yX8_needs cX8_needs 2 none (kw_X8_needs :: WU) rm_X8_needs 0 0 1 := cwV 1 hts (gV qm_8_141 qi_X8_needs ql_X8_needs qn_8 qc_X8_needs) rfl rfl rfl (by decide +kernel) ⟨Nat.le_of_ble_eq_true rfl, Nat.le_of_ble_eq_true rfl⟩
theorem u_X8_clause_X8_takes_130 {s : State} {args : Array Value} (hts : ∀ w ∈ WU, w.before args s = true) : CallW rm_X8_clause s args RX8 RX8 130 yX8_takes cX8_takes 3 (some .boolean) (kw_X8_takes :: WU) rm_X8_takes 0 0 1 := cwV 1 hts (gV qm_8_130 qi_X8_takes ql_X8_takes qn_8 qc_X8_takes) rfl rfl rfl (by decide +kernel) ⟨Nat.le_of_ble_eq_true rfl, Nat.le_of_ble_eq_true rfl⟩
section
variable {p : Program} {l : Launch} {e : Env} {s : State} {m : MethodId} {args : Array Value} {below : List Frame} {meth : Method} {c : Code} {A : Nat → Prop} {G : GE} {a_t a_t_s a_t_image a_t_mind a_t_aside a_t_text a_t_read a_t_comes a_t_begins a_t_latest a_t_move a_t_sort a_t_items a_t_cell a_t_carried : Nat} {z_t_read : Nat → Int32} {z_t_at : Int32} {z_t_fault : Int32}
set_option maxRecDepth 100000 in
set_option maxHeartbeats 4000000 in
theorem k_X8_clause_169 (C : Cx p s m args meth c cX8_clause none 3 RX8 G A) (t_isKept : Int32) (t_work : Int32) (t_kind : Int32) (t_letters : Int32) (t_at : Int32) (t_fault : Int32) (t_back : Int32) (t_waits : Int32) (t_miles : Int32) (t_loads : Int32) (t_bestRound : Int32) (t_bestPlace : Int32) (t_bestAdds : Int32) (t_regret : Int32) (t_z : Int32) (t_text : Nat → Int32) (t_read : Nat → Int32) (y1 : Int32) (y2 : Int32) {H : Heap} {locs : List Loc} {ls : Array Slot} (hf : b_X8_clause_169 y1 y2 t_read t_at t_fault = some (z_t_read, z_t_at, z_t_fault)) (S : St G A s.heap H locs (w_X8_clause G a_t a_t_s a_t_image a_t_mind a_t_aside a_t_text a_t_read a_t_comes a_t_begins a_t_latest a_t_move a_t_sort a_t_items a_t_cell a_t_carried t_isKept t_work t_kind t_letters t_at t_fault t_back t_waits t_miles t_loads t_bestRound t_bestPlace t_bestAdds t_regret t_z t_text t_read)) (hl : lv_has ls 3 []) : W p l e rm_X8_clause s m args below meth c H locs 0 0 (QV G below args s A (w_X8_clause G a_t a_t_s a_t_image a_t_mind a_t_aside a_t_text a_t_read a_t_comes a_t_begins a_t_latest a_t_move a_t_sort a_t_items a_t_cell a_t_carried t_isKept t_work t_kind t_letters z_t_at z_t_fault t_back t_waits t_miles t_loads t_bestRound t_bestPlace t_bestAdds t_regret t_z t_text z_t_read)) (F0 m 169 ls [.int y2, .int y1, .ref a_t_read]) := by
  unfold b_X8_clause_169 at hf
  have hx := C.1
  have hb := C.2.1
  have hown := C.2.2.2.2.1
  have hts := C.2.2.2.2.2.1
  have hN := C.2.2.2.2.2.2.2.2.2.2
  obtain ⟨hv1, hf⟩ := gI_e hf
  refine x_iast (pc := 169) (ws' := (w_X8_clause G a_t a_t_s a_t_image a_t_mind a_t_aside a_t_text a_t_read a_t_comes a_t_begins a_t_latest a_t_move a_t_sort a_t_items a_t_cell a_t_carried t_isKept t_work t_kind t_letters t_at t_fault t_back t_waits t_miles t_loads t_bestRound t_bestPlace t_bestAdds t_regret t_z t_text (upd t_read y1.toNatClampNeg y2))) C S 2 rfl hv1 rfl dX8_clause_169 (fun H locs S => ?_)
  cases hf
  exact x_vret (pc := 170) C S dX8_clause_170
set_option maxRecDepth 100000 in
set_option maxHeartbeats 4000000 in
theorem k_X8_clause_140 (C : Cx p s m args meth c cX8_clause none 3 RX8 G A) (t_isKept : Int32) (t_work : Int32) (t_kind : Int32) (t_letters : Int32) (t_at : Int32) (t_fault : Int32) (t_back : Int32) (t_waits : Int32) (t_miles : Int32) (t_loads : Int32) (t_bestRound : Int32) (t_bestPlace : Int32) (t_bestAdds : Int32) (t_regret : Int32) (t_z : Int32) (t_text : Nat → Int32) (t_read : Nat → Int32) (x1 : Int32) (y1 : Int32) (y2 : Int32) {H : Heap} {locs : List Loc} {ls : Array Slot} (hf : b_X8_clause_140 x1 y1 y2 t_text t_read t_letters t_at t_fault = some (z_t_read, z_t_at, z_t_fault)) (S : St G A s.heap H locs (w_X8_clause G a_t a_t_s a_t_image a_t_mind a_t_aside a_t_text a_t_read a_t_comes a_t_begins a_t_latest a_t_move a_t_sort a_t_items a_t_cell a_t_carried t_isKept t_work t_kind t_letters t_at t_fault t_back t_waits t_miles t_loads t_bestRound t_bestPlace t_bestAdds t_regret t_z t_text t_read)) (hl : lv_has ls 3 [(0, .ref a_t), (1, .int x1)]) : W p l e rm_X8_clause s m args below meth c H locs 0 0 (QV G below args s A (w_X8_clause G a_t a_t_s a_t_image a_t_mind a_t_aside a_t_text a_t_read a_t_comes a_t_begins a_t_latest a_t_move a_t_sort a_t_items a_t_cell a_t_carried t_isKept t_work t_kind t_letters z_t_at z_t_fault t_back t_waits t_miles t_loads t_bestRound t_bestPlace t_bestAdds t_regret t_z t_text z_t_read)) (F0 m 140 ls [.int y2, .int y1, .ref a_t_read]) := by
  unfold b_X8_clause_140 at hf
  have hx := C.1
  have hb := C.2.1
  have hown := C.2.2.2.2.1
  have hts := C.2.2.2.2.2.1
  have hN := C.2.2.2.2.2.2.2.2.2.2
  obtain ⟨hv1, hf⟩ := gI_e hf
  refine x_iast (pc := 140) (ws' := (w_X8_clause G a_t a_t_s a_t_image a_t_mind a_t_aside a_t_text a_t_read a_t_comes a_t_begins a_t_latest a_t_move a_t_sort a_t_items a_t_cell a_t_carried t_isKept t_work t_kind t_letters t_at t_fault t_back t_waits t_miles t_loads t_bestRound t_bestPlace t_bestAdds t_regret t_z t_text (upd t_read y1.toNatClampNeg y2))) C S 2 rfl hv1 rfl dX8_clause_140 (fun H locs S => ?_)
  refine lv_aload_n (pc := 141) hx hb dX8_clause_141 rfl (lv_at hl 0 rfl) ?_
  refine x_get (pc := 142) (ci := 8) (T := TX8) (v := .ref a_t_read) C S 0 rfl rfl inlX8 8 (by decide) rfl qf_8_27 rfl dX8_clause_142 ?_
  refine lv_iload_n (pc := 145) hx hb dX8_clause_145 rfl (lv_at hl 1 rfl) ?_
  refine lv_iconst (pc := 146) hx hb dX8_clause_146 ic_5 ?_
  refine lv_iadd (pc := 147) hx hb dX8_clause_147 ?_
  refine lv_aload_n (pc := 148) hx hb dX8_clause_148 rfl (lv_at hl 0 rfl) ?_
  refine lv_bipush (pc := 149) hx hb dX8_clause_149 bc_43 ?_
  obtain ⟨⟨r2, o2_t_at⟩, hq2, hf⟩ := bd_e hf
  refine x_vI (pc := 151) (As := [.int (43 : Int32)]) (rest := [.int (x1 + (5 : Int32)), .ref a_t_read]) (isC := [0, 1]) (ws' := (w_X8_clause G a_t a_t_s a_t_image a_t_mind a_t_aside a_t_text a_t_read a_t_comes a_t_begins a_t_latest a_t_move a_t_sort a_t_items a_t_cell a_t_carried t_isKept t_work t_kind t_letters o2_t_at t_fault t_back t_waits t_miles t_loads t_bestRound t_bestPlace t_bestAdds t_regret t_z t_text (upd t_read y1.toNatClampNeg y2))) C S (c_X8_takes l G a_t a_t_s a_t_image a_t_mind a_t_aside a_t_text a_t_read a_t_comes a_t_begins a_t_latest a_t_move a_t_sort a_t_items a_t_cell a_t_carried t_isKept t_work t_kind t_letters t_at t_fault t_back t_waits t_miles t_loads t_bestRound t_bestPlace t_bestAdds t_regret t_z t_text (43 : Int32) r2 o2_t_at hq2) (u_X8_clause_X8_takes_130 hts) (ci := 8) rfl 0 rfl rfl (by decide +kernel) [some 0, some 1, none] (by decide +kernel) rfl rfl rfl hl.1 rfl (Nat.le_of_ble_eq_true rfl) dX8_clause_151 (fun H locs S => ?_)
  refine lv_if_eq (tgt := 168) (pc := 154) hx hb dX8_clause_154 (by decide) (fun c3 => ?_) (fun c3 => ?_)
  · have hf := ifp c3 hf
    refine lv_iconst (pc := 168) hx hb dX8_clause_168 ic_0 ?_
    exact k_X8_clause_169 C (t_isKept) (t_work) (t_kind) (t_letters) (o2_t_at) (t_fault) (t_back) (t_waits) (t_miles) (t_loads) (t_bestRound) (t_bestPlace) (t_bestAdds) (t_regret) (t_z) (t_text) ((upd t_read y1.toNatClampNeg y2)) ((x1 + (5 : Int32))) ((0 : Int32)) hf S (lv_sub hl [] rfl)
  · have hf := ifn c3 hf
    refine lv_aload_n (pc := 157) hx hb dX8_clause_157 rfl (lv_at hl 0 rfl) ?_
    refine lv_iconst (pc := 158) hx hb dX8_clause_158 ic_2 ?_
    refine lv_iconst (pc := 159) hx hb dX8_clause_159 ic_0 ?_
    refine lv_bipush (pc := 160) hx hb dX8_clause_160 bc_30 ?_
    obtain ⟨⟨r4, o4_t_at, o4_t_fault⟩, hq4, hf⟩ := bd_e hf
    refine x_vI (pc := 162) (As := [.int (2 : Int32), .int (0 : Int32), .int (30 : Int32)]) (rest := [.int (x1 + (5 : Int32)), .ref a_t_read]) (isC := [0, 1]) (ws' := (w_X8_clause G a_t a_t_s a_t_image a_t_mind a_t_aside a_t_text a_t_read a_t_comes a_t_begins a_t_latest a_t_move a_t_sort a_t_items a_t_cell a_t_carried t_isKept t_work t_kind t_letters o4_t_at o4_t_fault t_back t_waits t_miles t_loads t_bestRound t_bestPlace t_bestAdds t_regret t_z t_text (upd t_read y1.toNatClampNeg y2))) C S (c_X8_number l G a_t a_t_s a_t_image a_t_mind a_t_aside a_t_text a_t_read a_t_comes a_t_begins a_t_latest a_t_move a_t_sort a_t_items a_t_cell a_t_carried t_isKept t_work t_kind t_letters o2_t_at t_fault t_back t_waits t_miles t_loads t_bestRound t_bestPlace t_bestAdds t_regret t_z t_text (2 : Int32) (0 : Int32) (30 : Int32) r4 o4_t_at o4_t_fault hq4) (u_X8_clause_X8_number_137 hts) (ci := 8) rfl 0 rfl rfl (by decide +kernel) [some 0, some 1, none] (by decide +kernel) rfl rfl rfl hl.1 rfl (Nat.le_of_ble_eq_true rfl) dX8_clause_162 (fun H locs S => ?_)
    refine lv_goto (tgt := 169) (pc := 165) hx hb dX8_clause_165 (by decide) ?_
    exact k_X8_clause_169 C (t_isKept) (t_work) (t_kind) (t_letters) (o4_t_at) (o4_t_fault) (t_back) (t_waits) (t_miles) (t_loads) (t_bestRound) (t_bestPlace) (t_bestAdds) (t_regret) (t_z) (t_text) ((upd t_read y1.toNatClampNeg y2)) ((x1 + (5 : Int32))) (r4) hf S (lv_sub hl [] rfl)
set_option maxRecDepth 100000 in
set_option maxHeartbeats 4000000 in
theorem k_X8_clause_107 (C : Cx p s m args meth c cX8_clause none 3 RX8 G A) (t_isKept : Int32) (t_work : Int32) (t_kind : Int32) (t_letters : Int32) (t_at : Int32) (t_fault : Int32) (t_back : Int32) (t_waits : Int32) (t_miles : Int32) (t_loads : Int32) (t_bestRound : Int32) (t_bestPlace : Int32) (t_bestAdds : Int32) (t_regret : Int32) (t_z : Int32) (t_text : Nat → Int32) (t_read : Nat → Int32) (x1 : Int32) (x2 : Int32) {H : Heap} {locs : List Loc} {ls : Array Slot} (hf : b_X8_clause_107 x1 x2 t_text t_read t_letters t_at t_fault = some (z_t_read, z_t_at, z_t_fault)) (S : St G A s.heap H locs (w_X8_clause G a_t a_t_s a_t_image a_t_mind a_t_aside a_t_text a_t_read a_t_comes a_t_begins a_t_latest a_t_move a_t_sort a_t_items a_t_cell a_t_carried t_isKept t_work t_kind t_letters t_at t_fault t_back t_waits t_miles t_loads t_bestRound t_bestPlace t_bestAdds t_regret t_z t_text t_read)) (hl : lv_has ls 3 [(0, .ref a_t), (1, .int x1), (2, .int x2)]) : W p l e rm_X8_clause s m args below meth c H locs 0 0 (QV G below args s A (w_X8_clause G a_t a_t_s a_t_image a_t_mind a_t_aside a_t_text a_t_read a_t_comes a_t_begins a_t_latest a_t_move a_t_sort a_t_items a_t_cell a_t_carried t_isKept t_work t_kind t_letters z_t_at z_t_fault t_back t_waits t_miles t_loads t_bestRound t_bestPlace t_bestAdds t_regret t_z t_text z_t_read)) (F0 m 107 ls []) := by
  unfold b_X8_clause_107 at hf
  have hx := C.1
  have hb := C.2.1
  have hown := C.2.2.2.2.1
  have hts := C.2.2.2.2.2.1
  have hN := C.2.2.2.2.2.2.2.2.2.2
  refine lv_aload_n (pc := 107) hx hb dX8_clause_107 rfl (lv_at hl 0 rfl) ?_
  refine x_get (pc := 108) (ci := 8) (T := TX8) (v := .ref a_t_read) C S 0 rfl rfl inlX8 8 (by decide) rfl qf_8_27 rfl dX8_clause_108 ?_
  refine lv_iload_n (pc := 111) hx hb dX8_clause_111 rfl (lv_at hl 1 rfl) ?_
  refine lv_iconst (pc := 112) hx hb dX8_clause_112 ic_4 ?_
  refine lv_iadd (pc := 113) hx hb dX8_clause_113 ?_
  refine lv_iload_n (pc := 114) hx hb dX8_clause_114 rfl (lv_at hl 2 rfl) ?_
  refine lv_if_eq (tgt := 137) (pc := 115) hx hb dX8_clause_115 (by decide) (fun c1 => ?_) (fun c1 => ?_)
  · have hf := ifp c1 hf
    refine lv_sipush (pc := 137) hx hb dX8_clause_137 sc_999 ?_
    exact k_X8_clause_140 C (t_isKept) (t_work) (t_kind) (t_letters) (t_at) (t_fault) (t_back) (t_waits) (t_miles) (t_loads) (t_bestRound) (t_bestPlace) (t_bestAdds) (t_regret) (t_z) (t_text) (t_read) (x1) ((x1 + (4 : Int32))) ((999 : Int32)) hf S (lv_sub hl [0, 1] rfl)
  · have hf := ifn c1 hf
    refine lv_aload_n (pc := 118) hx hb dX8_clause_118 rfl (lv_at hl 0 rfl) ?_
    refine lv_iconst (pc := 119) hx hb dX8_clause_119 ic_3 ?_
    refine lv_aload_n (pc := 120) hx hb dX8_clause_120 rfl (lv_at hl 0 rfl) ?_
    refine x_get (pc := 121) (ci := 8) (T := TX8) (v := .ref a_t_read) C S 0 rfl rfl inlX8 8 (by decide) rfl qf_8_27 rfl dX8_clause_121 ?_
    refine lv_iload_n (pc := 124) hx hb dX8_clause_124 rfl (lv_at hl 1 rfl) ?_
    refine lv_iconst (pc := 125) hx hb dX8_clause_125 ic_3 ?_
    refine lv_iadd (pc := 126) hx hb dX8_clause_126 ?_
    obtain ⟨hv2, hf⟩ := gI_e hf
    refine x_iald (pc := 127) C S 2 rfl hv2 dX8_clause_127 ?_
    refine lv_sipush (pc := 128) hx hb dX8_clause_128 sc_999 ?_
    obtain ⟨⟨r3, o3_t_at, o3_t_fault⟩, hq3, hf⟩ := bd_e hf
    refine x_vI (pc := 131) (As := [.int (3 : Int32), .int (t_read (x1 + (3 : Int32)).toNatClampNeg), .int (999 : Int32)]) (rest := [.int (x1 + (4 : Int32)), .ref a_t_read]) (isC := [0, 1]) (ws' := (w_X8_clause G a_t a_t_s a_t_image a_t_mind a_t_aside a_t_text a_t_read a_t_comes a_t_begins a_t_latest a_t_move a_t_sort a_t_items a_t_cell a_t_carried t_isKept t_work t_kind t_letters o3_t_at o3_t_fault t_back t_waits t_miles t_loads t_bestRound t_bestPlace t_bestAdds t_regret t_z t_text t_read)) C S (c_X8_number l G a_t a_t_s a_t_image a_t_mind a_t_aside a_t_text a_t_read a_t_comes a_t_begins a_t_latest a_t_move a_t_sort a_t_items a_t_cell a_t_carried t_isKept t_work t_kind t_letters t_at t_fault t_back t_waits t_miles t_loads t_bestRound t_bestPlace t_bestAdds t_regret t_z t_text (3 : Int32) (t_read (x1 + (3 : Int32)).toNatClampNeg) (999 : Int32) r3 o3_t_at o3_t_fault hq3) (u_X8_clause_X8_number_137 hts) (ci := 8) rfl 0 rfl rfl (by decide +kernel) [some 0, some 1, none] (by decide +kernel) rfl rfl rfl hl.1 rfl (Nat.le_of_ble_eq_true rfl) dX8_clause_131 (fun H locs S => ?_)
    refine lv_goto (tgt := 140) (pc := 134) hx hb dX8_clause_134 (by decide) ?_
    exact k_X8_clause_140 C (t_isKept) (t_work) (t_kind) (t_letters) (o3_t_at) (o3_t_fault) (t_back) (t_waits) (t_miles) (t_loads) (t_bestRound) (t_bestPlace) (t_bestAdds) (t_regret) (t_z) (t_text) (t_read) (x1) ((x1 + (4 : Int32))) (r3) hf S (lv_sub hl [0, 1] rfl)
set_option maxRecDepth 100000 in
set_option maxHeartbeats 4000000 in
theorem k_X8_clause_96 (C : Cx p s m args meth c cX8_clause none 3 RX8 G A) (t_isKept : Int32) (t_work : Int32) (t_kind : Int32) (t_letters : Int32) (t_at : Int32) (t_fault : Int32) (t_back : Int32) (t_waits : Int32) (t_miles : Int32) (t_loads : Int32) (t_bestRound : Int32) (t_bestPlace : Int32) (t_bestAdds : Int32) (t_regret : Int32) (t_z : Int32) (t_text : Nat → Int32) (t_read : Nat → Int32) (x1 : Int32) (x2 : Int32) (y1 : Int32) (y2 : Int32) {H : Heap} {locs : List Loc} {ls : Array Slot} (hf : b_X8_clause_96 x1 x2 y1 y2 t_text t_read t_letters t_at t_fault = some (z_t_read, z_t_at, z_t_fault)) (S : St G A s.heap H locs (w_X8_clause G a_t a_t_s a_t_image a_t_mind a_t_aside a_t_text a_t_read a_t_comes a_t_begins a_t_latest a_t_move a_t_sort a_t_items a_t_cell a_t_carried t_isKept t_work t_kind t_letters t_at t_fault t_back t_waits t_miles t_loads t_bestRound t_bestPlace t_bestAdds t_regret t_z t_text t_read)) (hl : lv_has ls 3 [(0, .ref a_t), (1, .int x1), (2, .int x2)]) : W p l e rm_X8_clause s m args below meth c H locs 0 0 (QV G below args s A (w_X8_clause G a_t a_t_s a_t_image a_t_mind a_t_aside a_t_text a_t_read a_t_comes a_t_begins a_t_latest a_t_move a_t_sort a_t_items a_t_cell a_t_carried t_isKept t_work t_kind t_letters z_t_at z_t_fault t_back t_waits t_miles t_loads t_bestRound t_bestPlace t_bestAdds t_regret t_z t_text z_t_read)) (F0 m 96 ls [.int y2, .int y1, .ref a_t_read]) := by
  unfold b_X8_clause_96 at hf
  have hx := C.1
  have hb := C.2.1
  have hown := C.2.2.2.2.1
  have hts := C.2.2.2.2.2.1
  have hN := C.2.2.2.2.2.2.2.2.2.2
  obtain ⟨hv1, hf⟩ := gI_e hf
  refine x_iast (pc := 96) (ws' := (w_X8_clause G a_t a_t_s a_t_image a_t_mind a_t_aside a_t_text a_t_read a_t_comes a_t_begins a_t_latest a_t_move a_t_sort a_t_items a_t_cell a_t_carried t_isKept t_work t_kind t_letters t_at t_fault t_back t_waits t_miles t_loads t_bestRound t_bestPlace t_bestAdds t_regret t_z t_text (upd t_read y1.toNatClampNeg y2))) C S 2 rfl hv1 rfl dX8_clause_96 (fun H locs S => ?_)
  refine lv_iload_n (pc := 97) hx hb dX8_clause_97 rfl (lv_at hl 2 rfl) ?_
  refine lv_if_eq (tgt := 107) (pc := 98) hx hb dX8_clause_98 (by decide) (fun c2 => ?_) (fun c2 => ?_)
  · have hf := ifp c2 hf
    exact k_X8_clause_107 C (t_isKept) (t_work) (t_kind) (t_letters) (t_at) (t_fault) (t_back) (t_waits) (t_miles) (t_loads) (t_bestRound) (t_bestPlace) (t_bestAdds) (t_regret) (t_z) (t_text) ((upd t_read y1.toNatClampNeg y2)) (x1) (x2) hf S (lv_sub hl [0, 1, 2] rfl)
  · have hf := ifn c2 hf
    refine lv_aload_n (pc := 101) hx hb dX8_clause_101 rfl (lv_at hl 0 rfl) ?_
    refine lv_bipush (pc := 102) hx hb dX8_clause_102 bc_45 ?_
    obtain ⟨⟨o3_t_at, o3_t_fault⟩, hq3, hf⟩ := bd_e hf
    refine x_vV (pc := 104) (As := [.int (45 : Int32)]) (rest := []) (isC := [0, 1]) (ws' := (w_X8_clause G a_t a_t_s a_t_image a_t_mind a_t_aside a_t_text a_t_read a_t_comes a_t_begins a_t_latest a_t_move a_t_sort a_t_items a_t_cell a_t_carried t_isKept t_work t_kind t_letters o3_t_at o3_t_fault t_back t_waits t_miles t_loads t_bestRound t_bestPlace t_bestAdds t_regret t_z t_text (upd t_read y1.toNatClampNeg y2))) C S (c_X8_needs l G a_t a_t_s a_t_image a_t_mind a_t_aside a_t_text a_t_read a_t_comes a_t_begins a_t_latest a_t_move a_t_sort a_t_items a_t_cell a_t_carried t_isKept t_work t_kind t_letters t_at t_fault t_back t_waits t_miles t_loads t_bestRound t_bestPlace t_bestAdds t_regret t_z t_text (45 : Int32) o3_t_at o3_t_fault hq3) (u_X8_clause_X8_needs_141 hts) (ci := 8) rfl 0 rfl rfl (by decide +kernel) [some 0, some 1, none] (by decide +kernel) rfl rfl rfl hl.1 rfl (Nat.le_of_ble_eq_true rfl) dX8_clause_104 (fun H locs S => ?_)
    exact k_X8_clause_107 C (t_isKept) (t_work) (t_kind) (t_letters) (o3_t_at) (o3_t_fault) (t_back) (t_waits) (t_miles) (t_loads) (t_bestRound) (t_bestPlace) (t_bestAdds) (t_regret) (t_z) (t_text) ((upd t_read y1.toNatClampNeg y2)) (x1) (x2) hf S (lv_sub hl [0, 1, 2] rfl)
set_option maxRecDepth 100000 in
set_option maxHeartbeats 4000000 in
theorem k_X8_clause_64 (C : Cx p s m args meth c cX8_clause none 3 RX8 G A) (t_isKept : Int32) (t_work : Int32) (t_kind : Int32) (t_letters : Int32) (t_at : Int32) (t_fault : Int32) (t_back : Int32) (t_waits : Int32) (t_miles : Int32) (t_loads : Int32) (t_bestRound : Int32) (t_bestPlace : Int32) (t_bestAdds : Int32) (t_regret : Int32) (t_z : Int32) (t_text : Nat → Int32) (t_read : Nat → Int32) (x1 : Int32) (y1 : Int32) (y2 : Int32) {H : Heap} {locs : List Loc} {ls : Array Slot} (hf : b_X8_clause_64 x1 y1 y2 t_text t_read t_letters t_at t_fault = some (z_t_read, z_t_at, z_t_fault)) (S : St G A s.heap H locs (w_X8_clause G a_t a_t_s a_t_image a_t_mind a_t_aside a_t_text a_t_read a_t_comes a_t_begins a_t_latest a_t_move a_t_sort a_t_items a_t_cell a_t_carried t_isKept t_work t_kind t_letters t_at t_fault t_back t_waits t_miles t_loads t_bestRound t_bestPlace t_bestAdds t_regret t_z t_text t_read)) (hl : lv_has ls 3 [(0, .ref a_t), (1, .int x1)]) : W p l e rm_X8_clause s m args below meth c H locs 0 0 (QV G below args s A (w_X8_clause G a_t a_t_s a_t_image a_t_mind a_t_aside a_t_text a_t_read a_t_comes a_t_begins a_t_latest a_t_move a_t_sort a_t_items a_t_cell a_t_carried t_isKept t_work t_kind t_letters z_t_at z_t_fault t_back t_waits t_miles t_loads t_bestRound t_bestPlace t_bestAdds t_regret t_z t_text z_t_read)) (F0 m 64 ls [.int y2, .int y1, .ref a_t_read]) := by
  unfold b_X8_clause_64 at hf
  have hx := C.1
  have hb := C.2.1
  have hown := C.2.2.2.2.1
  have hts := C.2.2.2.2.2.1
  have hN := C.2.2.2.2.2.2.2.2.2.2
  obtain ⟨hv1, hf⟩ := gI_e hf
  refine x_iast (pc := 64) (ws' := (w_X8_clause G a_t a_t_s a_t_image a_t_mind a_t_aside a_t_text a_t_read a_t_comes a_t_begins a_t_latest a_t_move a_t_sort a_t_items a_t_cell a_t_carried t_isKept t_work t_kind t_letters t_at t_fault t_back t_waits t_miles t_loads t_bestRound t_bestPlace t_bestAdds t_regret t_z t_text (upd t_read y1.toNatClampNeg y2))) C S 2 rfl hv1 rfl dX8_clause_64 (fun H locs S => ?_)
  refine lv_aload_n (pc := 65) hx hb dX8_clause_65 rfl (lv_at hl 0 rfl) ?_
  refine lv_bipush (pc := 66) hx hb dX8_clause_66 bc_64 ?_
  obtain ⟨⟨r2, o2_t_at⟩, hq2, hf⟩ := bd_e hf
  refine x_vI (pc := 68) (As := [.int (64 : Int32)]) (rest := []) (isC := [0, 1]) (ws' := (w_X8_clause G a_t a_t_s a_t_image a_t_mind a_t_aside a_t_text a_t_read a_t_comes a_t_begins a_t_latest a_t_move a_t_sort a_t_items a_t_cell a_t_carried t_isKept t_work t_kind t_letters o2_t_at t_fault t_back t_waits t_miles t_loads t_bestRound t_bestPlace t_bestAdds t_regret t_z t_text (upd t_read y1.toNatClampNeg y2))) C S (c_X8_takes l G a_t a_t_s a_t_image a_t_mind a_t_aside a_t_text a_t_read a_t_comes a_t_begins a_t_latest a_t_move a_t_sort a_t_items a_t_cell a_t_carried t_isKept t_work t_kind t_letters t_at t_fault t_back t_waits t_miles t_loads t_bestRound t_bestPlace t_bestAdds t_regret t_z t_text (64 : Int32) r2 o2_t_at hq2) (u_X8_clause_X8_takes_130 hts) (ci := 8) rfl 0 rfl rfl (by decide +kernel) [some 0, some 1, none] (by decide +kernel) rfl rfl rfl hl.1 rfl (Nat.le_of_ble_eq_true rfl) dX8_clause_68 (fun H locs S => ?_)
  refine lv_istore_n (pc := 71) (lv' := [(2, .int r2), (0, .ref a_t), (1, .int x1)]) hx hb dX8_clause_71 rfl hl (by decide) rfl (fun ls hl => ?_)
  refine lv_aload_n (pc := 72) hx hb dX8_clause_72 rfl (lv_at hl 1 rfl) ?_
  refine x_get (pc := 73) (ci := 8) (T := TX8) (v := .ref a_t_read) C S 0 rfl rfl inlX8 8 (by decide) rfl qf_8_27 rfl dX8_clause_73 ?_
  refine lv_iload_n (pc := 76) hx hb dX8_clause_76 rfl (lv_at hl 2 rfl) ?_
  refine lv_iconst (pc := 77) hx hb dX8_clause_77 ic_3 ?_
  refine lv_iadd (pc := 78) hx hb dX8_clause_78 ?_
  refine lv_iload_n (pc := 79) hx hb dX8_clause_79 rfl (lv_at hl 0 rfl) ?_
  refine lv_if_eq (tgt := 95) (pc := 80) hx hb dX8_clause_80 (by decide) (fun c3 => ?_) (fun c3 => ?_)
  · have hf := ifp c3 hf
    refine lv_iconst (pc := 95) hx hb dX8_clause_95 ic_0 ?_
    exact k_X8_clause_96 C (t_isKept) (t_work) (t_kind) (t_letters) (o2_t_at) (t_fault) (t_back) (t_waits) (t_miles) (t_loads) (t_bestRound) (t_bestPlace) (t_bestAdds) (t_regret) (t_z) (t_text) ((upd t_read y1.toNatClampNeg y2)) (x1) (r2) ((x1 + (3 : Int32))) ((0 : Int32)) hf S (lv_sub hl [1, 2, 0] rfl)
  · have hf := ifn c3 hf
    refine lv_aload_n (pc := 83) hx hb dX8_clause_83 rfl (lv_at hl 1 rfl) ?_
    refine lv_iconst (pc := 84) hx hb dX8_clause_84 ic_3 ?_
    refine lv_iconst (pc := 85) hx hb dX8_clause_85 ic_0 ?_
    refine lv_sipush (pc := 86) hx hb dX8_clause_86 sc_999 ?_
    obtain ⟨⟨r4, o4_t_at, o4_t_fault⟩, hq4, hf⟩ := bd_e hf
    refine x_vI (pc := 89) (As := [.int (3 : Int32), .int (0 : Int32), .int (999 : Int32)]) (rest := [.int (x1 + (3 : Int32)), .ref a_t_read]) (isC := [0, 1]) (ws' := (w_X8_clause G a_t a_t_s a_t_image a_t_mind a_t_aside a_t_text a_t_read a_t_comes a_t_begins a_t_latest a_t_move a_t_sort a_t_items a_t_cell a_t_carried t_isKept t_work t_kind t_letters o4_t_at o4_t_fault t_back t_waits t_miles t_loads t_bestRound t_bestPlace t_bestAdds t_regret t_z t_text (upd t_read y1.toNatClampNeg y2))) C S (c_X8_number l G a_t a_t_s a_t_image a_t_mind a_t_aside a_t_text a_t_read a_t_comes a_t_begins a_t_latest a_t_move a_t_sort a_t_items a_t_cell a_t_carried t_isKept t_work t_kind t_letters o2_t_at t_fault t_back t_waits t_miles t_loads t_bestRound t_bestPlace t_bestAdds t_regret t_z t_text (3 : Int32) (0 : Int32) (999 : Int32) r4 o4_t_at o4_t_fault hq4) (u_X8_clause_X8_number_137 hts) (ci := 8) rfl 0 rfl rfl (by decide +kernel) [some 0, some 1, none] (by decide +kernel) rfl rfl rfl hl.1 rfl (Nat.le_of_ble_eq_true rfl) dX8_clause_89 (fun H locs S => ?_)
    refine lv_goto (tgt := 96) (pc := 92) hx hb dX8_clause_92 (by decide) ?_
    exact k_X8_clause_96 C (t_isKept) (t_work) (t_kind) (t_letters) (o4_t_at) (o4_t_fault) (t_back) (t_waits) (t_miles) (t_loads) (t_bestRound) (t_bestPlace) (t_bestAdds) (t_regret) (t_z) (t_text) ((upd t_read y1.toNatClampNeg y2)) (x1) (r2) ((x1 + (3 : Int32))) (r4) hf S (lv_sub hl [1, 2, 0] rfl)
set_option maxRecDepth 100000 in
set_option maxHeartbeats 4000000 in
theorem c_X8_clause (l : Launch) (G : GE) (a_t a_t_s a_t_image a_t_mind a_t_aside a_t_text a_t_read a_t_comes a_t_begins a_t_latest a_t_move a_t_sort a_t_items a_t_cell a_t_carried : Nat) (t_isKept : Int32) (t_work : Int32) (t_kind : Int32) (t_letters : Int32) (t_at : Int32) (t_fault : Int32) (t_back : Int32) (t_waits : Int32) (t_miles : Int32) (t_loads : Int32) (t_bestRound : Int32) (t_bestPlace : Int32) (t_bestAdds : Int32) (t_regret : Int32) (t_z : Int32) (t_text : Nat → Int32) (t_read : Nat → Int32) (x1 : Int32) (z_t_read : Nat → Int32) (z_t_at : Int32) (z_t_fault : Int32) (hf : f_X8_clause t_text t_read t_letters t_at t_fault x1 = some (z_t_read, z_t_at, z_t_fault)) : CV l G yX8_clause kw_X8_clause rm_X8_clause [.ref a_t, .int x1] (w_X8_clause G a_t a_t_s a_t_image a_t_mind a_t_aside a_t_text a_t_read a_t_comes a_t_begins a_t_latest a_t_move a_t_sort a_t_items a_t_cell a_t_carried t_isKept t_work t_kind t_letters t_at t_fault t_back t_waits t_miles t_loads t_bestRound t_bestPlace t_bestAdds t_regret t_z t_text t_read) (w_X8_clause G a_t a_t_s a_t_image a_t_mind a_t_aside a_t_text a_t_read a_t_comes a_t_begins a_t_latest a_t_move a_t_sort a_t_items a_t_cell a_t_carried t_isKept t_work t_kind t_letters z_t_at z_t_fault t_back t_waits t_miles t_loads t_bestRound t_bestPlace t_bestAdds t_regret t_z t_text z_t_read) := by
  refine en_V (cc := cX8_clause) (maxL := 3) (ret := none) (by decide +kernel) (Nat.le_of_ble_eq_true rfl) ?_
  intro p e s m args below meth c A ls C S hl
  have hl : lv_has ls 3 [(0, .ref a_t), (1, .int x1)] := hl
  have C : Cx p s m args meth c cX8_clause none 3 RX8 G A := C
  unfold f_X8_clause at hf
  have hx := C.1
  have hb := C.2.1
  have hown := C.2.2.2.2.1
  have hts := C.2.2.2.2.2.1
  have hN := C.2.2.2.2.2.2.2.2.2.2
  refine lv_aload_n (pc := 0) hx hb dX8_clause_0 rfl (lv_at hl 0 rfl) ?_
  refine x_get (pc := 1) (ci := 8) (T := TX8) (v := .ref a_t_read) C S 0 rfl rfl inlX8 8 (by decide) rfl qf_8_27 rfl dX8_clause_1 ?_
  refine lv_iload_n (pc := 4) hx hb dX8_clause_4 rfl (lv_at hl 1 rfl) ?_
  refine lv_aload_n (pc := 5) hx hb dX8_clause_5 rfl (lv_at hl 0 rfl) ?_
  refine lv_iconst (pc := 6) hx hb dX8_clause_6 ic_2 ?_
  refine lv_iconst (pc := 7) hx hb dX8_clause_7 ic_0 ?_
  refine lv_bipush (pc := 8) hx hb dX8_clause_8 bc_63 ?_
  obtain ⟨⟨r1, o1_t_at, o1_t_fault⟩, hq1, hf⟩ := bd_e hf
  refine x_vI (pc := 10) (As := [.int (2 : Int32), .int (0 : Int32), .int (63 : Int32)]) (rest := [.int x1, .ref a_t_read]) (isC := [0, 1]) (ws' := (w_X8_clause G a_t a_t_s a_t_image a_t_mind a_t_aside a_t_text a_t_read a_t_comes a_t_begins a_t_latest a_t_move a_t_sort a_t_items a_t_cell a_t_carried t_isKept t_work t_kind t_letters o1_t_at o1_t_fault t_back t_waits t_miles t_loads t_bestRound t_bestPlace t_bestAdds t_regret t_z t_text t_read)) C S (c_X8_number l G a_t a_t_s a_t_image a_t_mind a_t_aside a_t_text a_t_read a_t_comes a_t_begins a_t_latest a_t_move a_t_sort a_t_items a_t_cell a_t_carried t_isKept t_work t_kind t_letters t_at t_fault t_back t_waits t_miles t_loads t_bestRound t_bestPlace t_bestAdds t_regret t_z t_text (2 : Int32) (0 : Int32) (63 : Int32) r1 o1_t_at o1_t_fault hq1) (u_X8_clause_X8_number_137 hts) (ci := 8) rfl 0 rfl rfl (by decide +kernel) [some 0, some 1, none] (by decide +kernel) rfl rfl rfl hl.1 rfl (Nat.le_of_ble_eq_true rfl) dX8_clause_10 (fun H locs S => ?_)
  obtain ⟨hv2, hf⟩ := gI_e hf
  refine x_iast (pc := 13) (ws' := (w_X8_clause G a_t a_t_s a_t_image a_t_mind a_t_aside a_t_text a_t_read a_t_comes a_t_begins a_t_latest a_t_move a_t_sort a_t_items a_t_cell a_t_carried t_isKept t_work t_kind t_letters o1_t_at o1_t_fault t_back t_waits t_miles t_loads t_bestRound t_bestPlace t_bestAdds t_regret t_z t_text (upd t_read x1.toNatClampNeg r1))) C S 2 rfl hv2 rfl dX8_clause_13 (fun H locs S => ?_)
  refine lv_aload_n (pc := 14) hx hb dX8_clause_14 rfl (lv_at hl 0 rfl) ?_
  refine lv_bipush (pc := 15) hx hb dX8_clause_15 bc_44 ?_
  obtain ⟨⟨o3_t_at, o3_t_fault⟩, hq3, hf⟩ := bd_e hf
  refine x_vV (pc := 17) (As := [.int (44 : Int32)]) (rest := []) (isC := [0, 1]) (ws' := (w_X8_clause G a_t a_t_s a_t_image a_t_mind a_t_aside a_t_text a_t_read a_t_comes a_t_begins a_t_latest a_t_move a_t_sort a_t_items a_t_cell a_t_carried t_isKept t_work t_kind t_letters o3_t_at o3_t_fault t_back t_waits t_miles t_loads t_bestRound t_bestPlace t_bestAdds t_regret t_z t_text (upd t_read x1.toNatClampNeg r1))) C S (c_X8_needs l G a_t a_t_s a_t_image a_t_mind a_t_aside a_t_text a_t_read a_t_comes a_t_begins a_t_latest a_t_move a_t_sort a_t_items a_t_cell a_t_carried t_isKept t_work t_kind t_letters o1_t_at o1_t_fault t_back t_waits t_miles t_loads t_bestRound t_bestPlace t_bestAdds t_regret t_z t_text (44 : Int32) o3_t_at o3_t_fault hq3) (u_X8_clause_X8_needs_141 hts) (ci := 8) rfl 0 rfl rfl (by decide +kernel) [some 0, some 1, none] (by decide +kernel) rfl rfl rfl hl.1 rfl (Nat.le_of_ble_eq_true rfl) dX8_clause_17 (fun H locs S => ?_)
  refine lv_aload_n (pc := 20) hx hb dX8_clause_20 rfl (lv_at hl 0 rfl) ?_
  refine x_get (pc := 21) (ci := 8) (T := TX8) (v := .ref a_t_read) C S 0 rfl rfl inlX8 8 (by decide) rfl qf_8_27 rfl dX8_clause_21 ?_
  refine lv_iload_n (pc := 24) hx hb dX8_clause_24 rfl (lv_at hl 1 rfl) ?_
  refine lv_iconst (pc := 25) hx hb dX8_clause_25 ic_1 ?_
  refine lv_iadd (pc := 26) hx hb dX8_clause_26 ?_
  refine lv_aload_n (pc := 27) hx hb dX8_clause_27 rfl (lv_at hl 0 rfl) ?_
  refine lv_iconst (pc := 28) hx hb dX8_clause_28 ic_2 ?_
  refine lv_iconst (pc := 29) hx hb dX8_clause_29 ic_0 ?_
  refine lv_bipush (pc := 30) hx hb dX8_clause_30 bc_63 ?_
  obtain ⟨⟨r4, o4_t_at, o4_t_fault⟩, hq4, hf⟩ := bd_e hf
  refine x_vI (pc := 32) (As := [.int (2 : Int32), .int (0 : Int32), .int (63 : Int32)]) (rest := [.int (x1 + (1 : Int32)), .ref a_t_read]) (isC := [0, 1]) (ws' := (w_X8_clause G a_t a_t_s a_t_image a_t_mind a_t_aside a_t_text a_t_read a_t_comes a_t_begins a_t_latest a_t_move a_t_sort a_t_items a_t_cell a_t_carried t_isKept t_work t_kind t_letters o4_t_at o4_t_fault t_back t_waits t_miles t_loads t_bestRound t_bestPlace t_bestAdds t_regret t_z t_text (upd t_read x1.toNatClampNeg r1))) C S (c_X8_number l G a_t a_t_s a_t_image a_t_mind a_t_aside a_t_text a_t_read a_t_comes a_t_begins a_t_latest a_t_move a_t_sort a_t_items a_t_cell a_t_carried t_isKept t_work t_kind t_letters o3_t_at o3_t_fault t_back t_waits t_miles t_loads t_bestRound t_bestPlace t_bestAdds t_regret t_z t_text (2 : Int32) (0 : Int32) (63 : Int32) r4 o4_t_at o4_t_fault hq4) (u_X8_clause_X8_number_137 hts) (ci := 8) rfl 0 rfl rfl (by decide +kernel) [some 0, some 1, none] (by decide +kernel) rfl rfl rfl hl.1 rfl (Nat.le_of_ble_eq_true rfl) dX8_clause_32 (fun H locs S => ?_)
  obtain ⟨hv5, hf⟩ := gI_e hf
  refine x_iast (pc := 35) (ws' := (w_X8_clause G a_t a_t_s a_t_image a_t_mind a_t_aside a_t_text a_t_read a_t_comes a_t_begins a_t_latest a_t_move a_t_sort a_t_items a_t_cell a_t_carried t_isKept t_work t_kind t_letters o4_t_at o4_t_fault t_back t_waits t_miles t_loads t_bestRound t_bestPlace t_bestAdds t_regret t_z t_text (upd (upd t_read x1.toNatClampNeg r1) (x1 + (1 : Int32)).toNatClampNeg r4))) C S 2 rfl hv5 rfl dX8_clause_35 (fun H locs S => ?_)
  refine lv_aload_n (pc := 36) hx hb dX8_clause_36 rfl (lv_at hl 0 rfl) ?_
  refine x_get (pc := 37) (ci := 8) (T := TX8) (v := .ref a_t_read) C S 0 rfl rfl inlX8 8 (by decide) rfl qf_8_27 rfl dX8_clause_37 ?_
  refine lv_iload_n (pc := 40) hx hb dX8_clause_40 rfl (lv_at hl 1 rfl) ?_
  refine lv_iconst (pc := 41) hx hb dX8_clause_41 ic_2 ?_
  refine lv_iadd (pc := 42) hx hb dX8_clause_42 ?_
  refine lv_aload_n (pc := 43) hx hb dX8_clause_43 rfl (lv_at hl 0 rfl) ?_
  refine lv_bipush (pc := 44) hx hb dX8_clause_44 bc_42 ?_
  obtain ⟨⟨r6, o6_t_at⟩, hq6, hf⟩ := bd_e hf
  refine x_vI (pc := 46) (As := [.int (42 : Int32)]) (rest := [.int (x1 + (2 : Int32)), .ref a_t_read]) (isC := [0, 1]) (ws' := (w_X8_clause G a_t a_t_s a_t_image a_t_mind a_t_aside a_t_text a_t_read a_t_comes a_t_begins a_t_latest a_t_move a_t_sort a_t_items a_t_cell a_t_carried t_isKept t_work t_kind t_letters o6_t_at o4_t_fault t_back t_waits t_miles t_loads t_bestRound t_bestPlace t_bestAdds t_regret t_z t_text (upd (upd t_read x1.toNatClampNeg r1) (x1 + (1 : Int32)).toNatClampNeg r4))) C S (c_X8_takes l G a_t a_t_s a_t_image a_t_mind a_t_aside a_t_text a_t_read a_t_comes a_t_begins a_t_latest a_t_move a_t_sort a_t_items a_t_cell a_t_carried t_isKept t_work t_kind t_letters o4_t_at o4_t_fault t_back t_waits t_miles t_loads t_bestRound t_bestPlace t_bestAdds t_regret t_z t_text (42 : Int32) r6 o6_t_at hq6) (u_X8_clause_X8_takes_130 hts) (ci := 8) rfl 0 rfl rfl (by decide +kernel) [some 0, some 1, none] (by decide +kernel) rfl rfl rfl hl.1 rfl (Nat.le_of_ble_eq_true rfl) dX8_clause_46 (fun H locs S => ?_)
  refine lv_if_eq (tgt := 63) (pc := 49) hx hb dX8_clause_49 (by decide) (fun c7 => ?_) (fun c7 => ?_)
  · have hf := ifp c7 hf
    refine lv_iconst (pc := 63) hx hb dX8_clause_63 ic_1 ?_
    exact k_X8_clause_64 C (t_isKept) (t_work) (t_kind) (t_letters) (o6_t_at) (o4_t_fault) (t_back) (t_waits) (t_miles) (t_loads) (t_bestRound) (t_bestPlace) (t_bestAdds) (t_regret) (t_z) (t_text) ((upd (upd t_read x1.toNatClampNeg r1) (x1 + (1 : Int32)).toNatClampNeg r4)) (x1) ((x1 + (2 : Int32))) ((1 : Int32)) hf S (lv_sub hl [0, 1] rfl)
  · have hf := ifn c7 hf
    refine lv_aload_n (pc := 52) hx hb dX8_clause_52 rfl (lv_at hl 0 rfl) ?_
    refine lv_iconst (pc := 53) hx hb dX8_clause_53 ic_2 ?_
    refine lv_iconst (pc := 54) hx hb dX8_clause_54 ic_0 ?_
    refine lv_bipush (pc := 55) hx hb dX8_clause_55 bc_20 ?_
    obtain ⟨⟨r8, o8_t_at, o8_t_fault⟩, hq8, hf⟩ := bd_e hf
    refine x_vI (pc := 57) (As := [.int (2 : Int32), .int (0 : Int32), .int (20 : Int32)]) (rest := [.int (x1 + (2 : Int32)), .ref a_t_read]) (isC := [0, 1]) (ws' := (w_X8_clause G a_t a_t_s a_t_image a_t_mind a_t_aside a_t_text a_t_read a_t_comes a_t_begins a_t_latest a_t_move a_t_sort a_t_items a_t_cell a_t_carried t_isKept t_work t_kind t_letters o8_t_at o8_t_fault t_back t_waits t_miles t_loads t_bestRound t_bestPlace t_bestAdds t_regret t_z t_text (upd (upd t_read x1.toNatClampNeg r1) (x1 + (1 : Int32)).toNatClampNeg r4))) C S (c_X8_number l G a_t a_t_s a_t_image a_t_mind a_t_aside a_t_text a_t_read a_t_comes a_t_begins a_t_latest a_t_move a_t_sort a_t_items a_t_cell a_t_carried t_isKept t_work t_kind t_letters o6_t_at o4_t_fault t_back t_waits t_miles t_loads t_bestRound t_bestPlace t_bestAdds t_regret t_z t_text (2 : Int32) (0 : Int32) (20 : Int32) r8 o8_t_at o8_t_fault hq8) (u_X8_clause_X8_number_137 hts) (ci := 8) rfl 0 rfl rfl (by decide +kernel) [some 0, some 1, none] (by decide +kernel) rfl rfl rfl hl.1 rfl (Nat.le_of_ble_eq_true rfl) dX8_clause_57 (fun H locs S => ?_)
    refine lv_goto (tgt := 64) (pc := 60) hx hb dX8_clause_60 (by decide) ?_
    exact k_X8_clause_64 C (t_isKept) (t_work) (t_kind) (t_letters) (o8_t_at) (o8_t_fault) (t_back) (t_waits) (t_miles) (t_loads) (t_bestRound) (t_bestPlace) (t_bestAdds) (t_regret) (t_z) (t_text) ((upd (upd t_read x1.toNatClampNeg r1) (x1 + (1 : Int32)).toNatClampNeg r4)) (x1) ((x1 + (2 : Int32))) (r8) hf S (lv_sub hl [0, 1] rfl)
end

abbrev rm_X8_laysAside : Room := { frames := 0, cells := 0, slots := 0, locals := 0 }
abbrev kw_X8_laysAside : Cond := .code yX8_laysAside cX8_laysAside 2 none
abbrev w_X8_laysAside (G : GE) (a_t a_t_s a_t_image a_t_mind a_t_aside a_t_text a_t_read a_t_comes a_t_begins a_t_latest a_t_move a_t_sort a_t_items a_t_cell a_t_carried : Nat) (t_isKept : Int32) (t_work : Int32) (t_kind : Int32) (t_letters : Int32) (t_at : Int32) (t_fault : Int32) (t_back : Int32) (t_waits : Int32) (t_miles : Int32) (t_loads : Int32) (t_bestRound : Int32) (t_bestPlace : Int32) (t_bestAdds : Int32) (t_regret : Int32) (t_z : Int32) (t_s : Nat → Int32) (t_aside : Nat → Int32) : va_W := [(a_t, ob 8 [.ref a_t_s, .ref a_t_image, .ref a_t_mind, .ref a_t_aside, .int t_isKept, .int t_work, .int t_kind, .ref a_t_text, .ref a_t_read, .int t_letters, .int t_at, .int t_fault, .ref a_t_comes, .ref a_t_begins, .ref a_t_latest, .int t_back, .int t_waits, .int t_miles, .int t_loads, .int t_bestRound, .int t_bestPlace, .int t_bestAdds, .int t_regret, .ref a_t_move, .ref a_t_sort, .ref a_t_items, .ref a_t_cell, .ref a_t_carried, .int t_z]), (a_t_s, aI G 258 t_s), (a_t_aside, aI G 80 t_aside)]
section
variable {p : Program} {l : Launch} {e : Env} {s : State} {m : MethodId} {args : Array Value} {below : List Frame} {meth : Method} {c : Code} {A : Nat → Prop} {G : GE} {a_t a_t_s a_t_image a_t_mind a_t_aside a_t_text a_t_read a_t_comes a_t_begins a_t_latest a_t_move a_t_sort a_t_items a_t_cell a_t_carried : Nat} {z_t_aside : Nat → Int32}
set_option maxRecDepth 100000 in
set_option maxHeartbeats 4000000 in
theorem k_X8_laysAside_2 (C : Cx p s m args meth c cX8_laysAside none 2 RX8 G A) (t_isKept : Int32) (t_work : Int32) (t_kind : Int32) (t_letters : Int32) (t_at : Int32) (t_fault : Int32) (t_back : Int32) (t_waits : Int32) (t_miles : Int32) (t_loads : Int32) (t_bestRound : Int32) (t_bestPlace : Int32) (t_bestAdds : Int32) (t_regret : Int32) (t_z : Int32) (t_s : Nat → Int32) (t_aside : Nat → Int32) (x1 : Int32) (k2 : Int32 × (Nat → Int32) → Option ((Nat → Int32))) (hk2 : ∀ {H : Heap} {locs : List Loc} {ls : Array Slot} (x1' : Int32) (t_aside' : Nat → Int32), k2 (x1', t_aside') = some z_t_aside → St G A s.heap H locs (w_X8_laysAside G a_t a_t_s a_t_image a_t_mind a_t_aside a_t_text a_t_read a_t_comes a_t_begins a_t_latest a_t_move a_t_sort a_t_items a_t_cell a_t_carried t_isKept t_work t_kind t_letters t_at t_fault t_back t_waits t_miles t_loads t_bestRound t_bestPlace t_bestAdds t_regret t_z t_s t_aside') → lv_has ls 2 [(0, .ref a_t), (1, .int x1')] → W p l e rm_X8_laysAside s m args below meth c H locs 0 0 (QV G below args s A (w_X8_laysAside G a_t a_t_s a_t_image a_t_mind a_t_aside a_t_text a_t_read a_t_comes a_t_begins a_t_latest a_t_move a_t_sort a_t_items a_t_cell a_t_carried t_isKept t_work t_kind t_letters t_at t_fault t_back t_waits t_miles t_loads t_bestRound t_bestPlace t_bestAdds t_regret t_z t_s z_t_aside)) (F0 m 2 ls [])) {H : Heap} {locs : List Loc} {ls : Array Slot} (hf : b_X8_laysAside_2 t_s k2 x1 t_aside = some z_t_aside) (S : St G A s.heap H locs (w_X8_laysAside G a_t a_t_s a_t_image a_t_mind a_t_aside a_t_text a_t_read a_t_comes a_t_begins a_t_latest a_t_move a_t_sort a_t_items a_t_cell a_t_carried t_isKept t_work t_kind t_letters t_at t_fault t_back t_waits t_miles t_loads t_bestRound t_bestPlace t_bestAdds t_regret t_z t_s t_aside)) (hl : lv_has ls 2 [(0, .ref a_t), (1, .int x1)]) : W p l e rm_X8_laysAside s m args below meth c H locs 0 0 (QV G below args s A (w_X8_laysAside G a_t a_t_s a_t_image a_t_mind a_t_aside a_t_text a_t_read a_t_comes a_t_begins a_t_latest a_t_move a_t_sort a_t_items a_t_cell a_t_carried t_isKept t_work t_kind t_letters t_at t_fault t_back t_waits t_miles t_loads t_bestRound t_bestPlace t_bestAdds t_regret t_z t_s z_t_aside)) (F0 m 2 ls []) := by
  unfold b_X8_laysAside_2 at hf
  have hx := C.1
  have hb := C.2.1
  have hown := C.2.2.2.2.1
  have hts := C.2.2.2.2.2.1
  have hN := C.2.2.2.2.2.2.2.2.2.2
  refine lv_iload_n (pc := 2) hx hb dX8_laysAside_2 rfl (lv_at hl 1 rfl) ?_
  refine lv_aload_n (pc := 3) hx hb dX8_laysAside_3 rfl (lv_at hl 0 rfl) ?_
  refine x_get (pc := 4) (ci := 8) (T := TX8) (v := .ref a_t_aside) C S 0 rfl rfl inlX8 3 (by decide) rfl qf_8_21 rfl dX8_laysAside_4 ?_
  refine x_lenI (pc := 7) C S 2 rfl nc_80 dX8_laysAside_7 ?_
  refine lv_icmp_ge (tgt := 33) (pc := 8) hx hb dX8_laysAside_8 (by decide) (fun c1 => ?_) (fun c1 => ?_)
  · have hf := ifp c1 hf
    cases hf
    exact x_vret (pc := 33) C S dX8_laysAside_33
  · have hf := ifn c1 hf
    refine lv_aload_n (pc := 11) hx hb dX8_laysAside_11 rfl (lv_at hl 0 rfl) ?_
    refine x_get (pc := 12) (ci := 8) (T := TX8) (v := .ref a_t_aside) C S 0 rfl rfl inlX8 3 (by decide) rfl qf_8_21 rfl dX8_laysAside_12 ?_
    refine lv_iload_n (pc := 15) hx hb dX8_laysAside_15 rfl (lv_at hl 1 rfl) ?_
    refine lv_aload_n (pc := 16) hx hb dX8_laysAside_16 rfl (lv_at hl 0 rfl) ?_
    refine x_get (pc := 17) (ci := 8) (T := TX8) (v := .ref a_t_s) C S 0 rfl rfl inlX8 0 (by decide) rfl qf_8_11 rfl dX8_laysAside_17 ?_
    refine lv_sipush (pc := 20) hx hb dX8_laysAside_20 sc_178 ?_
    refine lv_iload_n (pc := 23) hx hb dX8_laysAside_23 rfl (lv_at hl 1 rfl) ?_
    refine lv_iadd (pc := 24) hx hb dX8_laysAside_24 ?_
    obtain ⟨hv2, hf⟩ := gI_e hf
    refine x_iald (pc := 25) C S 1 rfl hv2 dX8_laysAside_25 ?_
    obtain ⟨hv3, hf⟩ := gI_e hf
    refine x_iast (pc := 26) (ws' := (w_X8_laysAside G a_t a_t_s a_t_image a_t_mind a_t_aside a_t_text a_t_read a_t_comes a_t_begins a_t_latest a_t_move a_t_sort a_t_items a_t_cell a_t_carried t_isKept t_work t_kind t_letters t_at t_fault t_back t_waits t_miles t_loads t_bestRound t_bestPlace t_bestAdds t_regret t_z t_s (upd t_aside x1.toNatClampNeg (t_s ((178 : Int32) + x1).toNatClampNeg)))) C S 2 rfl hv3 rfl dX8_laysAside_26 (fun H locs S => ?_)
    refine lv_iinc (pc := 27) (v := (x1 + (1 : Int32))) (lv' := [(1, .int (x1 + (1 : Int32))), (0, .ref a_t)]) hx hb dX8_laysAside_27 hl (k := 1) rfl (congrArg (fun z => x1 + z) ic_1) (by decide) rfl (fun ls hl => ?_)
    refine lv_goto (tgt := 2) (pc := 30) hx hb dX8_laysAside_30 (by decide) ?_
    exact hk2 ((x1 + (1 : Int32))) ((upd t_aside x1.toNatClampNeg (t_s ((178 : Int32) + x1).toNatClampNeg)))  hf S (lv_sub hl [1, 0] rfl)
set_option maxRecDepth 100000 in
set_option maxHeartbeats 4000000 in
theorem h_X8_laysAside_2 (C : Cx p s m args meth c cX8_laysAside none 2 RX8 G A) (t_isKept : Int32) (t_work : Int32) (t_kind : Int32) (t_letters : Int32) (t_at : Int32) (t_fault : Int32) (t_back : Int32) (t_waits : Int32) (t_miles : Int32) (t_loads : Int32) (t_bestRound : Int32) (t_bestPlace : Int32) (t_bestAdds : Int32) (t_regret : Int32) (t_z : Int32) (t_s : Nat → Int32) : ∀ (n : Nat) (x1 : Int32) (t_aside : Nat → Int32) {H : Heap} {locs : List Loc} {ls : Array Slot} (hf : lp (fun k x => b_X8_laysAside_2 t_s k x.1 x.2) n (x1, t_aside) = some z_t_aside) (S : St G A s.heap H locs (w_X8_laysAside G a_t a_t_s a_t_image a_t_mind a_t_aside a_t_text a_t_read a_t_comes a_t_begins a_t_latest a_t_move a_t_sort a_t_items a_t_cell a_t_carried t_isKept t_work t_kind t_letters t_at t_fault t_back t_waits t_miles t_loads t_bestRound t_bestPlace t_bestAdds t_regret t_z t_s t_aside)) (hl : lv_has ls 2 [(0, .ref a_t), (1, .int x1)]), W p l e rm_X8_laysAside s m args below meth c H locs 0 0 (QV G below args s A (w_X8_laysAside G a_t a_t_s a_t_image a_t_mind a_t_aside a_t_text a_t_read a_t_comes a_t_begins a_t_latest a_t_move a_t_sort a_t_items a_t_cell a_t_carried t_isKept t_work t_kind t_letters t_at t_fault t_back t_waits t_miles t_loads t_bestRound t_bestPlace t_bestAdds t_regret t_z t_s z_t_aside)) (F0 m 2 ls []) := by
  intro n
  induction n with
  | zero =>
    intro x1 t_aside  H locs ls hf
    cases hf
  | succ n ih =>
    intro x1 t_aside  H locs ls hf S hl
    have hf : b_X8_laysAside_2 t_s (lp (fun k x => b_X8_laysAside_2 t_s k x.1 x.2) n) x1 t_aside = some z_t_aside := hf
    exact k_X8_laysAside_2 C t_isKept t_work t_kind t_letters t_at t_fault t_back t_waits t_miles t_loads t_bestRound t_bestPlace t_bestAdds t_regret t_z t_s t_aside x1  (lp (fun k x => b_X8_laysAside_2 t_s k x.1 x.2) n) (fun x1' t_aside'  h S hl => ih x1' t_aside'  h S hl) hf S hl
set_option maxRecDepth 100000 in
set_option maxHeartbeats 4000000 in
theorem c_X8_laysAside (l : Launch) (G : GE) (a_t a_t_s a_t_image a_t_mind a_t_aside a_t_text a_t_read a_t_comes a_t_begins a_t_latest a_t_move a_t_sort a_t_items a_t_cell a_t_carried : Nat) (t_isKept : Int32) (t_work : Int32) (t_kind : Int32) (t_letters : Int32) (t_at : Int32) (t_fault : Int32) (t_back : Int32) (t_waits : Int32) (t_miles : Int32) (t_loads : Int32) (t_bestRound : Int32) (t_bestPlace : Int32) (t_bestAdds : Int32) (t_regret : Int32) (t_z : Int32) (t_s : Nat → Int32) (t_aside : Nat → Int32) (z_t_aside : Nat → Int32) (hf : f_X8_laysAside t_s t_aside = some z_t_aside) : CV l G yX8_laysAside kw_X8_laysAside rm_X8_laysAside [.ref a_t] (w_X8_laysAside G a_t a_t_s a_t_image a_t_mind a_t_aside a_t_text a_t_read a_t_comes a_t_begins a_t_latest a_t_move a_t_sort a_t_items a_t_cell a_t_carried t_isKept t_work t_kind t_letters t_at t_fault t_back t_waits t_miles t_loads t_bestRound t_bestPlace t_bestAdds t_regret t_z t_s t_aside) (w_X8_laysAside G a_t a_t_s a_t_image a_t_mind a_t_aside a_t_text a_t_read a_t_comes a_t_begins a_t_latest a_t_move a_t_sort a_t_items a_t_cell a_t_carried t_isKept t_work t_kind t_letters t_at t_fault t_back t_waits t_miles t_loads t_bestRound t_bestPlace t_bestAdds t_regret t_z t_s z_t_aside) := by
  refine en_V (cc := cX8_laysAside) (maxL := 2) (ret := none) (by decide +kernel) (Nat.le_of_ble_eq_true rfl) ?_
  intro p e s m args below meth c A ls C S hl
  have hl : lv_has ls 2 [(0, .ref a_t)] := hl
  have C : Cx p s m args meth c cX8_laysAside none 2 RX8 G A := C
  unfold f_X8_laysAside at hf
  have hx := C.1
  have hb := C.2.1
  have hown := C.2.2.2.2.1
  have hts := C.2.2.2.2.2.1
  have hN := C.2.2.2.2.2.2.2.2.2.2
  refine lv_iconst (pc := 0) hx hb dX8_laysAside_0 ic_0 ?_
  refine lv_istore_n (pc := 1) (lv' := [(1, .int (0 : Int32)), (0, .ref a_t)]) hx hb dX8_laysAside_1 rfl hl (by decide) rfl (fun ls hl => ?_)
  exact h_X8_laysAside_2 C (t_isKept) (t_work) (t_kind) (t_letters) (t_at) (t_fault) (t_back) (t_waits) (t_miles) (t_loads) (t_bestRound) (t_bestPlace) (t_bestAdds) (t_regret) (t_z) (t_s) fu ((0 : Int32)) (t_aside) hf S (lv_sub hl [1, 0] rfl)
end

abbrev rm_X8_laysBack : Room := { frames := 0, cells := 0, slots := 0, locals := 0 }
abbrev kw_X8_laysBack : Cond := .code yX8_laysBack cX8_laysBack 2 none
abbrev w_X8_laysBack (G : GE) (a_t a_t_s a_t_image a_t_mind a_t_aside a_t_text a_t_read a_t_comes a_t_begins a_t_latest a_t_move a_t_sort a_t_items a_t_cell a_t_carried : Nat) (t_isKept : Int32) (t_work : Int32) (t_kind : Int32) (t_letters : Int32) (t_at : Int32) (t_fault : Int32) (t_back : Int32) (t_waits : Int32) (t_miles : Int32) (t_loads : Int32) (t_bestRound : Int32) (t_bestPlace : Int32) (t_bestAdds : Int32) (t_regret : Int32) (t_z : Int32) (t_s : Nat → Int32) (t_aside : Nat → Int32) : va_W := [(a_t, ob 8 [.ref a_t_s, .ref a_t_image, .ref a_t_mind, .ref a_t_aside, .int t_isKept, .int t_work, .int t_kind, .ref a_t_text, .ref a_t_read, .int t_letters, .int t_at, .int t_fault, .ref a_t_comes, .ref a_t_begins, .ref a_t_latest, .int t_back, .int t_waits, .int t_miles, .int t_loads, .int t_bestRound, .int t_bestPlace, .int t_bestAdds, .int t_regret, .ref a_t_move, .ref a_t_sort, .ref a_t_items, .ref a_t_cell, .ref a_t_carried, .int t_z]), (a_t_s, aI G 258 t_s), (a_t_aside, aI G 80 t_aside)]
section
variable {p : Program} {l : Launch} {e : Env} {s : State} {m : MethodId} {args : Array Value} {below : List Frame} {meth : Method} {c : Code} {A : Nat → Prop} {G : GE} {a_t a_t_s a_t_image a_t_mind a_t_aside a_t_text a_t_read a_t_comes a_t_begins a_t_latest a_t_move a_t_sort a_t_items a_t_cell a_t_carried : Nat} {z_t_s : Nat → Int32}
set_option maxRecDepth 100000 in
set_option maxHeartbeats 4000000 in
theorem k_X8_laysBack_2 (C : Cx p s m args meth c cX8_laysBack none 2 RX8 G A) (t_isKept : Int32) (t_work : Int32) (t_kind : Int32) (t_letters : Int32) (t_at : Int32) (t_fault : Int32) (t_back : Int32) (t_waits : Int32) (t_miles : Int32) (t_loads : Int32) (t_bestRound : Int32) (t_bestPlace : Int32) (t_bestAdds : Int32) (t_regret : Int32) (t_z : Int32) (t_s : Nat → Int32) (t_aside : Nat → Int32) (x1 : Int32) (k2 : Int32 × (Nat → Int32) → Option ((Nat → Int32))) (hk2 : ∀ {H : Heap} {locs : List Loc} {ls : Array Slot} (x1' : Int32) (t_s' : Nat → Int32), k2 (x1', t_s') = some z_t_s → St G A s.heap H locs (w_X8_laysBack G a_t a_t_s a_t_image a_t_mind a_t_aside a_t_text a_t_read a_t_comes a_t_begins a_t_latest a_t_move a_t_sort a_t_items a_t_cell a_t_carried t_isKept t_work t_kind t_letters t_at t_fault t_back t_waits t_miles t_loads t_bestRound t_bestPlace t_bestAdds t_regret t_z t_s' t_aside) → lv_has ls 2 [(0, .ref a_t), (1, .int x1')] → W p l e rm_X8_laysBack s m args below meth c H locs 0 0 (QV G below args s A (w_X8_laysBack G a_t a_t_s a_t_image a_t_mind a_t_aside a_t_text a_t_read a_t_comes a_t_begins a_t_latest a_t_move a_t_sort a_t_items a_t_cell a_t_carried t_isKept t_work t_kind t_letters t_at t_fault t_back t_waits t_miles t_loads t_bestRound t_bestPlace t_bestAdds t_regret t_z z_t_s t_aside)) (F0 m 2 ls [])) {H : Heap} {locs : List Loc} {ls : Array Slot} (hf : b_X8_laysBack_2 t_aside k2 x1 t_s = some z_t_s) (S : St G A s.heap H locs (w_X8_laysBack G a_t a_t_s a_t_image a_t_mind a_t_aside a_t_text a_t_read a_t_comes a_t_begins a_t_latest a_t_move a_t_sort a_t_items a_t_cell a_t_carried t_isKept t_work t_kind t_letters t_at t_fault t_back t_waits t_miles t_loads t_bestRound t_bestPlace t_bestAdds t_regret t_z t_s t_aside)) (hl : lv_has ls 2 [(0, .ref a_t), (1, .int x1)]) : W p l e rm_X8_laysBack s m args below meth c H locs 0 0 (QV G below args s A (w_X8_laysBack G a_t a_t_s a_t_image a_t_mind a_t_aside a_t_text a_t_read a_t_comes a_t_begins a_t_latest a_t_move a_t_sort a_t_items a_t_cell a_t_carried t_isKept t_work t_kind t_letters t_at t_fault t_back t_waits t_miles t_loads t_bestRound t_bestPlace t_bestAdds t_regret t_z z_t_s t_aside)) (F0 m 2 ls []) := by
  unfold b_X8_laysBack_2 at hf
  have hx := C.1
  have hb := C.2.1
  have hown := C.2.2.2.2.1
  have hts := C.2.2.2.2.2.1
  have hN := C.2.2.2.2.2.2.2.2.2.2
  refine lv_iload_n (pc := 2) hx hb dX8_laysBack_2 rfl (lv_at hl 1 rfl) ?_
  refine lv_aload_n (pc := 3) hx hb dX8_laysBack_3 rfl (lv_at hl 0 rfl) ?_
  refine x_get (pc := 4) (ci := 8) (T := TX8) (v := .ref a_t_aside) C S 0 rfl rfl inlX8 3 (by decide) rfl qf_8_21 rfl dX8_laysBack_4 ?_
  refine x_lenI (pc := 7) C S 2 rfl nc_80 dX8_laysBack_7 ?_
  refine lv_icmp_ge (tgt := 33) (pc := 8) hx hb dX8_laysBack_8 (by decide) (fun c1 => ?_) (fun c1 => ?_)
  · have hf := ifp c1 hf
    cases hf
    exact x_vret (pc := 33) C S dX8_laysBack_33
  · have hf := ifn c1 hf
    refine lv_aload_n (pc := 11) hx hb dX8_laysBack_11 rfl (lv_at hl 0 rfl) ?_
    refine x_get (pc := 12) (ci := 8) (T := TX8) (v := .ref a_t_s) C S 0 rfl rfl inlX8 0 (by decide) rfl qf_8_11 rfl dX8_laysBack_12 ?_
    refine lv_sipush (pc := 15) hx hb dX8_laysBack_15 sc_178 ?_
    refine lv_iload_n (pc := 18) hx hb dX8_laysBack_18 rfl (lv_at hl 1 rfl) ?_
    refine lv_iadd (pc := 19) hx hb dX8_laysBack_19 ?_
    refine lv_aload_n (pc := 20) hx hb dX8_laysBack_20 rfl (lv_at hl 0 rfl) ?_
    refine x_get (pc := 21) (ci := 8) (T := TX8) (v := .ref a_t_aside) C S 0 rfl rfl inlX8 3 (by decide) rfl qf_8_21 rfl dX8_laysBack_21 ?_
    refine lv_iload_n (pc := 24) hx hb dX8_laysBack_24 rfl (lv_at hl 1 rfl) ?_
    obtain ⟨hv2, hf⟩ := gI_e hf
    refine x_iald (pc := 25) C S 2 rfl hv2 dX8_laysBack_25 ?_
    obtain ⟨hv3, hf⟩ := gI_e hf
    refine x_iast (pc := 26) (ws' := (w_X8_laysBack G a_t a_t_s a_t_image a_t_mind a_t_aside a_t_text a_t_read a_t_comes a_t_begins a_t_latest a_t_move a_t_sort a_t_items a_t_cell a_t_carried t_isKept t_work t_kind t_letters t_at t_fault t_back t_waits t_miles t_loads t_bestRound t_bestPlace t_bestAdds t_regret t_z (upd t_s ((178 : Int32) + x1).toNatClampNeg (t_aside x1.toNatClampNeg)) t_aside)) C S 1 rfl hv3 rfl dX8_laysBack_26 (fun H locs S => ?_)
    refine lv_iinc (pc := 27) (v := (x1 + (1 : Int32))) (lv' := [(1, .int (x1 + (1 : Int32))), (0, .ref a_t)]) hx hb dX8_laysBack_27 hl (k := 1) rfl (congrArg (fun z => x1 + z) ic_1) (by decide) rfl (fun ls hl => ?_)
    refine lv_goto (tgt := 2) (pc := 30) hx hb dX8_laysBack_30 (by decide) ?_
    exact hk2 ((x1 + (1 : Int32))) ((upd t_s ((178 : Int32) + x1).toNatClampNeg (t_aside x1.toNatClampNeg)))  hf S (lv_sub hl [1, 0] rfl)
set_option maxRecDepth 100000 in
set_option maxHeartbeats 4000000 in
theorem h_X8_laysBack_2 (C : Cx p s m args meth c cX8_laysBack none 2 RX8 G A) (t_isKept : Int32) (t_work : Int32) (t_kind : Int32) (t_letters : Int32) (t_at : Int32) (t_fault : Int32) (t_back : Int32) (t_waits : Int32) (t_miles : Int32) (t_loads : Int32) (t_bestRound : Int32) (t_bestPlace : Int32) (t_bestAdds : Int32) (t_regret : Int32) (t_z : Int32) (t_aside : Nat → Int32) : ∀ (n : Nat) (x1 : Int32) (t_s : Nat → Int32) {H : Heap} {locs : List Loc} {ls : Array Slot} (hf : lp (fun k x => b_X8_laysBack_2 t_aside k x.1 x.2) n (x1, t_s) = some z_t_s) (S : St G A s.heap H locs (w_X8_laysBack G a_t a_t_s a_t_image a_t_mind a_t_aside a_t_text a_t_read a_t_comes a_t_begins a_t_latest a_t_move a_t_sort a_t_items a_t_cell a_t_carried t_isKept t_work t_kind t_letters t_at t_fault t_back t_waits t_miles t_loads t_bestRound t_bestPlace t_bestAdds t_regret t_z t_s t_aside)) (hl : lv_has ls 2 [(0, .ref a_t), (1, .int x1)]), W p l e rm_X8_laysBack s m args below meth c H locs 0 0 (QV G below args s A (w_X8_laysBack G a_t a_t_s a_t_image a_t_mind a_t_aside a_t_text a_t_read a_t_comes a_t_begins a_t_latest a_t_move a_t_sort a_t_items a_t_cell a_t_carried t_isKept t_work t_kind t_letters t_at t_fault t_back t_waits t_miles t_loads t_bestRound t_bestPlace t_bestAdds t_regret t_z z_t_s t_aside)) (F0 m 2 ls []) := by
  intro n
  induction n with
  | zero =>
    intro x1 t_s  H locs ls hf
    cases hf
  | succ n ih =>
    intro x1 t_s  H locs ls hf S hl
    have hf : b_X8_laysBack_2 t_aside (lp (fun k x => b_X8_laysBack_2 t_aside k x.1 x.2) n) x1 t_s = some z_t_s := hf
    exact k_X8_laysBack_2 C t_isKept t_work t_kind t_letters t_at t_fault t_back t_waits t_miles t_loads t_bestRound t_bestPlace t_bestAdds t_regret t_z t_s t_aside x1  (lp (fun k x => b_X8_laysBack_2 t_aside k x.1 x.2) n) (fun x1' t_s'  h S hl => ih x1' t_s'  h S hl) hf S hl
set_option maxRecDepth 100000 in
set_option maxHeartbeats 4000000 in
theorem c_X8_laysBack (l : Launch) (G : GE) (a_t a_t_s a_t_image a_t_mind a_t_aside a_t_text a_t_read a_t_comes a_t_begins a_t_latest a_t_move a_t_sort a_t_items a_t_cell a_t_carried : Nat) (t_isKept : Int32) (t_work : Int32) (t_kind : Int32) (t_letters : Int32) (t_at : Int32) (t_fault : Int32) (t_back : Int32) (t_waits : Int32) (t_miles : Int32) (t_loads : Int32) (t_bestRound : Int32) (t_bestPlace : Int32) (t_bestAdds : Int32) (t_regret : Int32) (t_z : Int32) (t_s : Nat → Int32) (t_aside : Nat → Int32) (z_t_s : Nat → Int32) (hf : f_X8_laysBack t_s t_aside = some z_t_s) : CV l G yX8_laysBack kw_X8_laysBack rm_X8_laysBack [.ref a_t] (w_X8_laysBack G a_t a_t_s a_t_image a_t_mind a_t_aside a_t_text a_t_read a_t_comes a_t_begins a_t_latest a_t_move a_t_sort a_t_items a_t_cell a_t_carried t_isKept t_work t_kind t_letters t_at t_fault t_back t_waits t_miles t_loads t_bestRound t_bestPlace t_bestAdds t_regret t_z t_s t_aside) (w_X8_laysBack G a_t a_t_s a_t_image a_t_mind a_t_aside a_t_text a_t_read a_t_comes a_t_begins a_t_latest a_t_move a_t_sort a_t_items a_t_cell a_t_carried t_isKept t_work t_kind t_letters t_at t_fault t_back t_waits t_miles t_loads t_bestRound t_bestPlace t_bestAdds t_regret t_z z_t_s t_aside) := by
  refine en_V (cc := cX8_laysBack) (maxL := 2) (ret := none) (by decide +kernel) (Nat.le_of_ble_eq_true rfl) ?_
  intro p e s m args below meth c A ls C S hl
  have hl : lv_has ls 2 [(0, .ref a_t)] := hl
  have C : Cx p s m args meth c cX8_laysBack none 2 RX8 G A := C
  unfold f_X8_laysBack at hf
  have hx := C.1
  have hb := C.2.1
  have hown := C.2.2.2.2.1
  have hts := C.2.2.2.2.2.1
  have hN := C.2.2.2.2.2.2.2.2.2.2
  refine lv_iconst (pc := 0) hx hb dX8_laysBack_0 ic_0 ?_
  refine lv_istore_n (pc := 1) (lv' := [(1, .int (0 : Int32)), (0, .ref a_t)]) hx hb dX8_laysBack_1 rfl hl (by decide) rfl (fun ls hl => ?_)
  exact h_X8_laysBack_2 C (t_isKept) (t_work) (t_kind) (t_letters) (t_at) (t_fault) (t_back) (t_waits) (t_miles) (t_loads) (t_bestRound) (t_bestPlace) (t_bestAdds) (t_regret) (t_z) (t_aside) fu ((0 : Int32)) (t_s) hf S (lv_sub hl [1, 0] rfl)
end

abbrev rm_X8_clear : Room := { frames := 5, cells := 0, slots := 0, locals := 120 }
abbrev kw_X8_clear : Cond := .code yX8_clear cX8_clear 4 (some .int)
abbrev w_X8_clear (G : GE) (a_t a_t_s a_t_image a_t_mind a_t_aside a_t_text a_t_read a_t_comes a_t_begins a_t_latest a_t_move a_t_sort a_t_items a_t_cell a_t_carried : Nat) (t_isKept : Int32) (t_work : Int32) (t_kind : Int32) (t_letters : Int32) (t_at : Int32) (t_fault : Int32) (t_back : Int32) (t_waits : Int32) (t_miles : Int32) (t_loads : Int32) (t_bestRound : Int32) (t_bestPlace : Int32) (t_bestAdds : Int32) (t_regret : Int32) (t_z : Int32) (t_s : Nat → Int32) (t_aside : Nat → Int32) (t_comes : Nat → Int32) (t_begins : Nat → Int32) : va_W := [(a_t, ob 8 [.ref a_t_s, .ref a_t_image, .ref a_t_mind, .ref a_t_aside, .int t_isKept, .int t_work, .int t_kind, .ref a_t_text, .ref a_t_read, .int t_letters, .int t_at, .int t_fault, .ref a_t_comes, .ref a_t_begins, .ref a_t_latest, .int t_back, .int t_waits, .int t_miles, .int t_loads, .int t_bestRound, .int t_bestPlace, .int t_bestAdds, .int t_regret, .ref a_t_move, .ref a_t_sort, .ref a_t_items, .ref a_t_cell, .ref a_t_carried, .int t_z]), (a_t_s, aI G 258 t_s), (a_t_aside, aI G 80 t_aside), (a_t_comes, aI G 16 t_comes), (a_t_begins, aI G 16 t_begins)]
theorem u_X8_clear_X8_isRound_162 {s : State} {args : Array Value} (hts : ∀ w ∈ WU, w.before args s = true) : CallB rm_X8_clear s args RX8 162 yX8_isRound cX8_isRound 1 (some .boolean) (kw_X8_isRound :: WU) rm_X8_isRound 0 0 1 ∧ (Cond.static yX8_isRound).before args s = true := va_cwS 1 hts (gS qm_8_162 qs_X8_isRound qn_8 qc_X8_isRound) rfl rfl rfl (by decide +kernel) ⟨Nat.le_of_ble_eq_true rfl, Nat.le_of_ble_eq_true rfl⟩
theorem u_X8_clear_X8_laysAside_181 {s : State} {args : Array Value} (hts : ∀ w ∈ WU, w.before args s = true) : CallW rm_X8_clear s args RX8 RX8 181 yX8_laysAside cX8_laysAside 2 none (kw_X8_laysAside :: WU) rm_X8_laysAside 0 0 0 := cwV 0 hts (gV qm_8_181 qi_X8_laysAside ql_X8_laysAside qn_8 qc_X8_laysAside) rfl rfl rfl (by decide +kernel) ⟨Nat.le_of_ble_eq_true rfl, Nat.le_of_ble_eq_true rfl⟩
theorem u_X8_clear_X8_roundAt_59 {s : State} {args : Array Value} (hts : ∀ w ∈ WU, w.before args s = true) : CallW rm_X8_clear s args RX8 RX8 59 yX8_roundAt cX8_roundAt 3 (some .int) (kw_X8_roundAt :: WU) rm_X8_roundAt 0 0 2 := cwV 2 hts (gV qm_8_59 qi_X8_roundAt ql_X8_roundAt qn_8 qc_X8_roundAt) rfl rfl rfl (by decide +kernel) ⟨Nat.le_of_ble_eq_true rfl, Nat.le_of_ble_eq_true rfl⟩
theorem u_X8_clear_X8_holds_104 {s : State} {args : Array Value} (hts : ∀ w ∈ WU, w.before args s = true) : CallW rm_X8_clear s args RX8 RX8 104 yX8_holds cX8_holds 2 (some .boolean) (kw_X8_holds :: WU) rm_X8_holds 0 0 1 := cwV 1 hts (gV qm_8_104 qi_X8_holds ql_X8_holds qn_8 qc_X8_holds) rfl rfl rfl (by decide +kernel) ⟨Nat.le_of_ble_eq_true rfl, Nat.le_of_ble_eq_true rfl⟩
theorem u_X8_clear_X8_laysBack_184 {s : State} {args : Array Value} (hts : ∀ w ∈ WU, w.before args s = true) : CallW rm_X8_clear s args RX8 RX8 184 yX8_laysBack cX8_laysBack 2 none (kw_X8_laysBack :: WU) rm_X8_laysBack 0 0 0 := cwV 0 hts (gV qm_8_184 qi_X8_laysBack ql_X8_laysBack qn_8 qc_X8_laysBack) rfl rfl rfl (by decide +kernel) ⟨Nat.le_of_ble_eq_true rfl, Nat.le_of_ble_eq_true rfl⟩
theorem u_X8_clear_X8_inRow_63 {s : State} {args : Array Value} (hts : ∀ w ∈ WU, w.before args s = true) : CallW rm_X8_clear s args RX8 RX8 63 yX8_inRow cX8_inRow 3 (some .int) (kw_X8_inRow :: WU) rm_X8_inRow 0 0 2 := cwV 2 hts (gV qm_8_63 qi_X8_inRow ql_X8_inRow qn_8 qc_X8_inRow) rfl rfl rfl (by decide +kernel) ⟨Nat.le_of_ble_eq_true rfl, Nat.le_of_ble_eq_true rfl⟩
theorem u_X8_clear_X8_stopAt_78 {s : State} {args : Array Value} (hts : ∀ w ∈ WU, w.before args s = true) : CallW rm_X8_clear s args RX8 RX8 78 yX8_stopAt cX8_stopAt 3 (some .int) (kw_X8_stopAt :: WU) rm_X8_stopAt 0 0 2 := cwV 2 hts (gV qm_8_78 qi_X8_stopAt ql_X8_stopAt qn_8 qc_X8_stopAt) rfl rfl rfl (by decide +kernel) ⟨Nat.le_of_ble_eq_true rfl, Nat.le_of_ble_eq_true rfl⟩
theorem u_X8_clear_X8_removes_170 {s : State} {args : Array Value} (hts : ∀ w ∈ WU, w.before args s = true) : CallW rm_X8_clear s args RX8 RX8 170 yX8_removes cX8_removes 5 none (kw_X8_removes :: WU) rm_X8_removes 0 0 2 := cwV 2 hts (gV qm_8_170 qi_X8_removes ql_X8_removes qn_8 qc_X8_removes) rfl rfl rfl (by decide +kernel) ⟨Nat.le_of_ble_eq_true rfl, Nat.le_of_ble_eq_true rfl⟩
section
variable {p : Program} {l : Launch} {e : Env} {s : State} {m : MethodId} {args : Array Value} {below : List Frame} {meth : Method} {c : Code} {A : Nat → Prop} {G : GE} {a_t a_t_s a_t_image a_t_mind a_t_aside a_t_text a_t_read a_t_comes a_t_begins a_t_latest a_t_move a_t_sort a_t_items a_t_cell a_t_carried : Nat} {r : Int32} {z_t_s : Nat → Int32} {z_t_aside : Nat → Int32} {z_t_comes : Nat → Int32} {z_t_begins : Nat → Int32} {z_t_back : Int32} {z_t_waits : Int32} {z_t_loads : Int32}
set_option maxRecDepth 100000 in
set_option maxHeartbeats 4000000 in
theorem k_X8_clear_24 (C : Cx p s m args meth c cX8_clear (some .int) 4 RX8 G A) (t_isKept : Int32) (t_work : Int32) (t_kind : Int32) (t_letters : Int32) (t_at : Int32) (t_fault : Int32) (t_back : Int32) (t_waits : Int32) (t_miles : Int32) (t_loads : Int32) (t_bestRound : Int32) (t_bestPlace : Int32) (t_bestAdds : Int32) (t_regret : Int32) (t_z : Int32) (t_s : Nat → Int32) (t_aside : Nat → Int32) (t_comes : Nat → Int32) (t_begins : Nat → Int32) (x1 : Int32) (x2 : Int32) (x3 : Int32) (k24 : Int32 × Int32 × (Nat → Int32) → Option (Int32 × (Nat → Int32) × (Nat → Int32) × (Nat → Int32) × (Nat → Int32) × Int32 × Int32 × Int32)) (hk24 : ∀ {H : Heap} {locs : List Loc} {ls : Array Slot} (x2' : Int32) (x3' : Int32) (t_s' : Nat → Int32), k24 (x2', x3', t_s') = some (r, z_t_s, z_t_aside, z_t_comes, z_t_begins, z_t_back, z_t_waits, z_t_loads) → St G A s.heap H locs (w_X8_clear G a_t a_t_s a_t_image a_t_mind a_t_aside a_t_text a_t_read a_t_comes a_t_begins a_t_latest a_t_move a_t_sort a_t_items a_t_cell a_t_carried t_isKept t_work t_kind t_letters t_at t_fault t_back t_waits t_miles t_loads t_bestRound t_bestPlace t_bestAdds t_regret t_z t_s' t_aside t_comes t_begins) → lv_has ls 4 [(0, .ref a_t), (1, .int x1), (2, .int x2'), (3, .int x3')] → W p l e rm_X8_clear s m args below meth c H locs 0 0 (QI G below args s A r (w_X8_clear G a_t a_t_s a_t_image a_t_mind a_t_aside a_t_text a_t_read a_t_comes a_t_begins a_t_latest a_t_move a_t_sort a_t_items a_t_cell a_t_carried t_isKept t_work t_kind t_letters t_at t_fault z_t_back z_t_waits t_miles z_t_loads t_bestRound t_bestPlace t_bestAdds t_regret t_z z_t_s z_t_aside z_t_comes z_t_begins)) (F0 m 24 ls [])) {H : Heap} {locs : List Loc} {ls : Array Slot} (hf : b_X8_clear_24 x1 t_aside t_comes t_begins t_back t_waits t_loads k24 x2 x3 t_s = some (r, z_t_s, z_t_aside, z_t_comes, z_t_begins, z_t_back, z_t_waits, z_t_loads)) (S : St G A s.heap H locs (w_X8_clear G a_t a_t_s a_t_image a_t_mind a_t_aside a_t_text a_t_read a_t_comes a_t_begins a_t_latest a_t_move a_t_sort a_t_items a_t_cell a_t_carried t_isKept t_work t_kind t_letters t_at t_fault t_back t_waits t_miles t_loads t_bestRound t_bestPlace t_bestAdds t_regret t_z t_s t_aside t_comes t_begins)) (hl : lv_has ls 4 [(0, .ref a_t), (1, .int x1), (2, .int x2), (3, .int x3)]) : W p l e rm_X8_clear s m args below meth c H locs 0 0 (QI G below args s A r (w_X8_clear G a_t a_t_s a_t_image a_t_mind a_t_aside a_t_text a_t_read a_t_comes a_t_begins a_t_latest a_t_move a_t_sort a_t_items a_t_cell a_t_carried t_isKept t_work t_kind t_letters t_at t_fault z_t_back z_t_waits t_miles z_t_loads t_bestRound t_bestPlace t_bestAdds t_regret t_z z_t_s z_t_aside z_t_comes z_t_begins)) (F0 m 24 ls []) := by
  unfold b_X8_clear_24 at hf
  have hx := C.1
  have hb := C.2.1
  have hown := C.2.2.2.2.1
  have hts := C.2.2.2.2.2.1
  have hN := C.2.2.2.2.2.2.2.2.2.2
  refine lv_iload_n (pc := 24) hx hb dX8_clear_24 rfl (lv_at hl 3 rfl) ?_
  refine lv_if_lt (tgt := 62) (pc := 25) hx hb dX8_clear_25 (by decide) (fun c1 => ?_) (fun c1 => ?_)
  · have hf := ifp c1 hf
    refine lv_aload_n (pc := 62) hx hb dX8_clear_62 rfl (lv_at hl 0 rfl) ?_
    refine lv_iload_n (pc := 63) hx hb dX8_clear_63 rfl (lv_at hl 1 rfl) ?_
    obtain ⟨⟨r2, o2_t_comes, o2_t_begins, o2_t_back, o2_t_waits, o2_t_loads⟩, hq2, hf⟩ := bd_e hf
    refine x_vI (pc := 64) (As := [.int x1]) (rest := []) (isC := [0, 1, 3, 4]) (ws' := (w_X8_clear G a_t a_t_s a_t_image a_t_mind a_t_aside a_t_text a_t_read a_t_comes a_t_begins a_t_latest a_t_move a_t_sort a_t_items a_t_cell a_t_carried t_isKept t_work t_kind t_letters t_at t_fault o2_t_back o2_t_waits t_miles o2_t_loads t_bestRound t_bestPlace t_bestAdds t_regret t_z t_s t_aside o2_t_comes o2_t_begins)) C S (c_X8_holds l G a_t a_t_s a_t_image a_t_mind a_t_aside a_t_text a_t_read a_t_comes a_t_begins a_t_latest a_t_move a_t_sort a_t_items a_t_cell a_t_carried t_isKept t_work t_kind t_letters t_at t_fault t_back t_waits t_miles t_loads t_bestRound t_bestPlace t_bestAdds t_regret t_z t_s t_comes t_begins x1 r2 o2_t_comes o2_t_begins o2_t_back o2_t_waits o2_t_loads hq2) (u_X8_clear_X8_holds_104 hts) (ci := 8) rfl 0 rfl rfl (by decide +kernel) [some 0, some 1, none, some 2, some 3] (by decide +kernel) rfl rfl rfl hl.1 rfl (Nat.le_of_ble_eq_true rfl) dX8_clear_64 (fun H locs S => ?_)
    refine lv_if_eq (tgt := 72) (pc := 67) hx hb dX8_clear_67 (by decide) (fun c3 => ?_) (fun c3 => ?_)
    · have hf := ifp c3 hf
      refine lv_aload_n (pc := 72) hx hb dX8_clear_72 rfl (lv_at hl 0 rfl) ?_
      obtain ⟨o4_t_s, hq4, hf⟩ := bd_e hf
      refine x_vV (pc := 73) (As := []) (rest := []) (isC := [0, 1, 2]) (ws' := (w_X8_clear G a_t a_t_s a_t_image a_t_mind a_t_aside a_t_text a_t_read a_t_comes a_t_begins a_t_latest a_t_move a_t_sort a_t_items a_t_cell a_t_carried t_isKept t_work t_kind t_letters t_at t_fault o2_t_back o2_t_waits t_miles o2_t_loads t_bestRound t_bestPlace t_bestAdds t_regret t_z o4_t_s t_aside o2_t_comes o2_t_begins)) C S (c_X8_laysBack l G a_t a_t_s a_t_image a_t_mind a_t_aside a_t_text a_t_read a_t_comes a_t_begins a_t_latest a_t_move a_t_sort a_t_items a_t_cell a_t_carried t_isKept t_work t_kind t_letters t_at t_fault o2_t_back o2_t_waits t_miles o2_t_loads t_bestRound t_bestPlace t_bestAdds t_regret t_z t_s t_aside o4_t_s hq4) (u_X8_clear_X8_laysBack_184 hts) (ci := 8) rfl 0 rfl rfl (by decide +kernel) [some 0, some 1, some 2, none, none] (by decide +kernel) rfl rfl rfl hl.1 rfl (Nat.le_of_ble_eq_true rfl) dX8_clear_73 (fun H locs S => ?_)
      refine lv_bipush (pc := 76) hx hb dX8_clear_76 bc_m3 ?_
      cases hf
      exact x_iret (pc := 78) C S dX8_clear_78
    · have hf := ifn c3 hf
      refine lv_iload_n (pc := 70) hx hb dX8_clear_70 rfl (lv_at hl 2 rfl) ?_
      cases hf
      exact x_iret (pc := 71) C S dX8_clear_71
  · have hf := ifn c1 hf
    refine lv_aload_n (pc := 28) hx hb dX8_clear_28 rfl (lv_at hl 0 rfl) ?_
    refine lv_aload_n (pc := 29) hx hb dX8_clear_29 rfl (lv_at hl 0 rfl) ?_
    refine lv_iload_n (pc := 30) hx hb dX8_clear_30 rfl (lv_at hl 1 rfl) ?_
    refine lv_iload_n (pc := 31) hx hb dX8_clear_31 rfl (lv_at hl 3 rfl) ?_
    obtain ⟨r5, hq5, hf⟩ := bd_e hf
    refine x_vI (pc := 32) (As := [.int x1, .int x3]) (rest := [.ref a_t]) (isC := [0, 1]) (ws' := (w_X8_clear G a_t a_t_s a_t_image a_t_mind a_t_aside a_t_text a_t_read a_t_comes a_t_begins a_t_latest a_t_move a_t_sort a_t_items a_t_cell a_t_carried t_isKept t_work t_kind t_letters t_at t_fault t_back t_waits t_miles t_loads t_bestRound t_bestPlace t_bestAdds t_regret t_z t_s t_aside t_comes t_begins)) C S (c_X8_inRow l G a_t a_t_s a_t_image a_t_mind a_t_aside a_t_text a_t_read a_t_comes a_t_begins a_t_latest a_t_move a_t_sort a_t_items a_t_cell a_t_carried t_isKept t_work t_kind t_letters t_at t_fault t_back t_waits t_miles t_loads t_bestRound t_bestPlace t_bestAdds t_regret t_z t_s x1 x3 r5 hq5) (u_X8_clear_X8_inRow_63 hts) (ci := 8) rfl 0 rfl rfl (by decide +kernel) [some 0, some 1, none, none, none] (by decide +kernel) rfl rfl rfl hl.1 rfl (Nat.le_of_ble_eq_true rfl) dX8_clear_32 (fun H locs S => ?_)
    refine lv_bipush (pc := 35) hx hb dX8_clear_35 bc_6 ?_
    obtain ⟨r6, hq6, hf⟩ := bd_e hf
    refine x_vI (pc := 37) (As := [.int r5, .int (6 : Int32)]) (rest := []) (isC := [0, 1]) (ws' := (w_X8_clear G a_t a_t_s a_t_image a_t_mind a_t_aside a_t_text a_t_read a_t_comes a_t_begins a_t_latest a_t_move a_t_sort a_t_items a_t_cell a_t_carried t_isKept t_work t_kind t_letters t_at t_fault t_back t_waits t_miles t_loads t_bestRound t_bestPlace t_bestAdds t_regret t_z t_s t_aside t_comes t_begins)) C S (c_X8_stopAt l G a_t a_t_s a_t_image a_t_mind a_t_aside a_t_text a_t_read a_t_comes a_t_begins a_t_latest a_t_move a_t_sort a_t_items a_t_cell a_t_carried t_isKept t_work t_kind t_letters t_at t_fault t_back t_waits t_miles t_loads t_bestRound t_bestPlace t_bestAdds t_regret t_z t_s r5 (6 : Int32) r6 hq6) (u_X8_clear_X8_stopAt_78 hts) (ci := 8) rfl 0 rfl rfl (by decide +kernel) [some 0, some 1, none, none, none] (by decide +kernel) rfl rfl rfl hl.1 rfl (Nat.le_of_ble_eq_true rfl) dX8_clear_37 (fun H locs S => ?_)
    refine lv_iconst (pc := 40) hx hb dX8_clear_40 ic_1 ?_
    refine lv_icmp_ne (tgt := 47) (pc := 41) hx hb dX8_clear_41 (by decide) (fun c7 => ?_) (fun c7 => ?_)
    · have hf := ifn c7 hf
      refine lv_aload_n (pc := 47) hx hb dX8_clear_47 rfl (lv_at hl 0 rfl) ?_
      refine lv_iload_n (pc := 48) hx hb dX8_clear_48 rfl (lv_at hl 1 rfl) ?_
      refine lv_iload_n (pc := 49) hx hb dX8_clear_49 rfl (lv_at hl 3 rfl) ?_
      obtain ⟨o8_t_s, hq8, hf⟩ := bd_e hf
      refine x_vV (pc := 50) (As := [.int x1, .int x3]) (rest := []) (isC := [0, 1]) (ws' := (w_X8_clear G a_t a_t_s a_t_image a_t_mind a_t_aside a_t_text a_t_read a_t_comes a_t_begins a_t_latest a_t_move a_t_sort a_t_items a_t_cell a_t_carried t_isKept t_work t_kind t_letters t_at t_fault t_back t_waits t_miles t_loads t_bestRound t_bestPlace t_bestAdds t_regret t_z o8_t_s t_aside t_comes t_begins)) C S (c_X8_removes l G a_t a_t_s a_t_image a_t_mind a_t_aside a_t_text a_t_read a_t_comes a_t_begins a_t_latest a_t_move a_t_sort a_t_items a_t_cell a_t_carried t_isKept t_work t_kind t_letters t_at t_fault t_back t_waits t_miles t_loads t_bestRound t_bestPlace t_bestAdds t_regret t_z t_s x1 x3 o8_t_s hq8) (u_X8_clear_X8_removes_170 hts) (ci := 8) rfl 0 rfl rfl (by decide +kernel) [some 0, some 1, none, none, none] (by decide +kernel) rfl rfl rfl hl.1 rfl (Nat.le_of_ble_eq_true rfl) dX8_clear_50 (fun H locs S => ?_)
      refine lv_iinc (pc := 53) (v := (x2 + (1 : Int32))) (lv' := [(2, .int (x2 + (1 : Int32))), (0, .ref a_t), (1, .int x1), (3, .int x3)]) hx hb dX8_clear_53 hl (k := 2) rfl (congrArg (fun z => x2 + z) ic_1) (by decide) rfl (fun ls hl => ?_)
      refine lv_iinc (pc := 56) (v := (x3 + (-1 : Int32))) (lv' := [(3, .int (x3 + (-1 : Int32))), (2, .int (x2 + (1 : Int32))), (0, .ref a_t), (1, .int x1)]) hx hb dX8_clear_56 hl (k := 3) rfl (congrArg (fun z => x3 + z) ic_m1) (by decide) rfl (fun ls hl => ?_)
      refine lv_goto (tgt := 24) (pc := 59) hx hb dX8_clear_59 (by decide) ?_
      exact hk24 ((x2 + (1 : Int32))) ((x3 + (-1 : Int32))) (o8_t_s)  hf S (lv_sub hl [2, 3, 1, 0] rfl)
    · have hf := ifp c7 hf
      refine lv_goto (tgt := 56) (pc := 44) hx hb dX8_clear_44 (by decide) ?_
      refine lv_iinc (pc := 56) (v := (x3 + (-1 : Int32))) (lv' := [(3, .int (x3 + (-1 : Int32))), (0, .ref a_t), (1, .int x1), (2, .int x2)]) hx hb dX8_clear_56 hl (k := 3) rfl (congrArg (fun z => x3 + z) ic_m1) (by decide) rfl (fun ls hl => ?_)
      refine lv_goto (tgt := 24) (pc := 59) hx hb dX8_clear_59 (by decide) ?_
      exact hk24 (x2) ((x3 + (-1 : Int32))) (t_s)  hf S (lv_sub hl [1, 2, 3, 0] rfl)
set_option maxRecDepth 100000 in
set_option maxHeartbeats 4000000 in
theorem h_X8_clear_24 (C : Cx p s m args meth c cX8_clear (some .int) 4 RX8 G A) (t_isKept : Int32) (t_work : Int32) (t_kind : Int32) (t_letters : Int32) (t_at : Int32) (t_fault : Int32) (t_back : Int32) (t_waits : Int32) (t_miles : Int32) (t_loads : Int32) (t_bestRound : Int32) (t_bestPlace : Int32) (t_bestAdds : Int32) (t_regret : Int32) (t_z : Int32) (t_aside : Nat → Int32) (t_comes : Nat → Int32) (t_begins : Nat → Int32) (x1 : Int32) : ∀ (n : Nat) (x2 : Int32) (x3 : Int32) (t_s : Nat → Int32) {H : Heap} {locs : List Loc} {ls : Array Slot} (hf : lp (fun k x => b_X8_clear_24 x1 t_aside t_comes t_begins t_back t_waits t_loads k x.1 x.2.1 x.2.2) n (x2, x3, t_s) = some (r, z_t_s, z_t_aside, z_t_comes, z_t_begins, z_t_back, z_t_waits, z_t_loads)) (S : St G A s.heap H locs (w_X8_clear G a_t a_t_s a_t_image a_t_mind a_t_aside a_t_text a_t_read a_t_comes a_t_begins a_t_latest a_t_move a_t_sort a_t_items a_t_cell a_t_carried t_isKept t_work t_kind t_letters t_at t_fault t_back t_waits t_miles t_loads t_bestRound t_bestPlace t_bestAdds t_regret t_z t_s t_aside t_comes t_begins)) (hl : lv_has ls 4 [(0, .ref a_t), (1, .int x1), (2, .int x2), (3, .int x3)]), W p l e rm_X8_clear s m args below meth c H locs 0 0 (QI G below args s A r (w_X8_clear G a_t a_t_s a_t_image a_t_mind a_t_aside a_t_text a_t_read a_t_comes a_t_begins a_t_latest a_t_move a_t_sort a_t_items a_t_cell a_t_carried t_isKept t_work t_kind t_letters t_at t_fault z_t_back z_t_waits t_miles z_t_loads t_bestRound t_bestPlace t_bestAdds t_regret t_z z_t_s z_t_aside z_t_comes z_t_begins)) (F0 m 24 ls []) := by
  intro n
  induction n with
  | zero =>
    intro x2 x3 t_s  H locs ls hf
    cases hf
  | succ n ih =>
    intro x2 x3 t_s  H locs ls hf S hl
    have hf : b_X8_clear_24 x1 t_aside t_comes t_begins t_back t_waits t_loads (lp (fun k x => b_X8_clear_24 x1 t_aside t_comes t_begins t_back t_waits t_loads k x.1 x.2.1 x.2.2) n) x2 x3 t_s = some (r, z_t_s, z_t_aside, z_t_comes, z_t_begins, z_t_back, z_t_waits, z_t_loads) := hf
    exact k_X8_clear_24 C t_isKept t_work t_kind t_letters t_at t_fault t_back t_waits t_miles t_loads t_bestRound t_bestPlace t_bestAdds t_regret t_z t_s t_aside t_comes t_begins x1 x2 x3  (lp (fun k x => b_X8_clear_24 x1 t_aside t_comes t_begins t_back t_waits t_loads k x.1 x.2.1 x.2.2) n) (fun x2' x3' t_s'  h S hl => ih x2' x3' t_s'  h S hl) hf S hl
set_option maxRecDepth 100000 in
set_option maxHeartbeats 4000000 in
theorem c_X8_clear (l : Launch) (G : GE) (a_t a_t_s a_t_image a_t_mind a_t_aside a_t_text a_t_read a_t_comes a_t_begins a_t_latest a_t_move a_t_sort a_t_items a_t_cell a_t_carried : Nat) (t_isKept : Int32) (t_work : Int32) (t_kind : Int32) (t_letters : Int32) (t_at : Int32) (t_fault : Int32) (t_back : Int32) (t_waits : Int32) (t_miles : Int32) (t_loads : Int32) (t_bestRound : Int32) (t_bestPlace : Int32) (t_bestAdds : Int32) (t_regret : Int32) (t_z : Int32) (t_s : Nat → Int32) (t_aside : Nat → Int32) (t_comes : Nat → Int32) (t_begins : Nat → Int32) (x1 : Int32) (r : Int32) (z_t_s : Nat → Int32) (z_t_aside : Nat → Int32) (z_t_comes : Nat → Int32) (z_t_begins : Nat → Int32) (z_t_back : Int32) (z_t_waits : Int32) (z_t_loads : Int32) (hf : f_X8_clear t_s t_aside t_comes t_begins t_back t_waits t_loads x1 = some (r, z_t_s, z_t_aside, z_t_comes, z_t_begins, z_t_back, z_t_waits, z_t_loads)) : CI l G yX8_clear kw_X8_clear rm_X8_clear [.ref a_t, .int x1] (w_X8_clear G a_t a_t_s a_t_image a_t_mind a_t_aside a_t_text a_t_read a_t_comes a_t_begins a_t_latest a_t_move a_t_sort a_t_items a_t_cell a_t_carried t_isKept t_work t_kind t_letters t_at t_fault t_back t_waits t_miles t_loads t_bestRound t_bestPlace t_bestAdds t_regret t_z t_s t_aside t_comes t_begins) r (w_X8_clear G a_t a_t_s a_t_image a_t_mind a_t_aside a_t_text a_t_read a_t_comes a_t_begins a_t_latest a_t_move a_t_sort a_t_items a_t_cell a_t_carried t_isKept t_work t_kind t_letters t_at t_fault z_t_back z_t_waits t_miles z_t_loads t_bestRound t_bestPlace t_bestAdds t_regret t_z z_t_s z_t_aside z_t_comes z_t_begins) := by
  refine en_I (cc := cX8_clear) (maxL := 4) (ret := (some .int)) (by decide +kernel) (Nat.le_of_ble_eq_true rfl) ?_
  intro p e s m args below meth c A ls C S hl
  have hl : lv_has ls 4 [(0, .ref a_t), (1, .int x1)] := hl
  have C : Cx p s m args meth c cX8_clear (some .int) 4 RX8 G A := C
  unfold f_X8_clear at hf
  have hx := C.1
  have hb := C.2.1
  have hown := C.2.2.2.2.1
  have hts := C.2.2.2.2.2.1
  have hN := C.2.2.2.2.2.2.2.2.2.2
  refine lv_iload_n (pc := 0) hx hb dX8_clear_0 rfl (lv_at hl 1 rfl) ?_
  obtain ⟨r1, hq1, hf⟩ := bd_e hf
  refine x_sI (pc := 1) (As := [.int x1]) (rest := []) (isC := []) (ws' := (w_X8_clear G a_t a_t_s a_t_image a_t_mind a_t_aside a_t_text a_t_read a_t_comes a_t_begins a_t_latest a_t_move a_t_sort a_t_items a_t_cell a_t_carried t_isKept t_work t_kind t_letters t_at t_fault t_back t_waits t_miles t_loads t_bestRound t_bestPlace t_bestAdds t_regret t_z t_s t_aside t_comes t_begins)) C S (c_X8_isRound l G x1 r1 hq1) (u_X8_clear_X8_isRound_162 hts) rfl (by decide +kernel) [none, none, none, none, none] (by decide +kernel) rfl rfl rfl hl.1 rfl (Nat.le_of_ble_eq_true rfl) dX8_clear_1 (fun H locs S => ?_)
  refine lv_if_ne (tgt := 9) (pc := 4) hx hb dX8_clear_4 (by decide) (fun c2 => ?_) (fun c2 => ?_)
  · have hf := ifn c2 hf
    refine lv_aload_n (pc := 9) hx hb dX8_clear_9 rfl (lv_at hl 0 rfl) ?_
    obtain ⟨o3_t_aside, hq3, hf⟩ := bd_e hf
    refine x_vV (pc := 10) (As := []) (rest := []) (isC := [0, 1, 2]) (ws' := (w_X8_clear G a_t a_t_s a_t_image a_t_mind a_t_aside a_t_text a_t_read a_t_comes a_t_begins a_t_latest a_t_move a_t_sort a_t_items a_t_cell a_t_carried t_isKept t_work t_kind t_letters t_at t_fault t_back t_waits t_miles t_loads t_bestRound t_bestPlace t_bestAdds t_regret t_z t_s o3_t_aside t_comes t_begins)) C S (c_X8_laysAside l G a_t a_t_s a_t_image a_t_mind a_t_aside a_t_text a_t_read a_t_comes a_t_begins a_t_latest a_t_move a_t_sort a_t_items a_t_cell a_t_carried t_isKept t_work t_kind t_letters t_at t_fault t_back t_waits t_miles t_loads t_bestRound t_bestPlace t_bestAdds t_regret t_z t_s t_aside o3_t_aside hq3) (u_X8_clear_X8_laysAside_181 hts) (ci := 8) rfl 0 rfl rfl (by decide +kernel) [some 0, some 1, some 2, none, none] (by decide +kernel) rfl rfl rfl hl.1 rfl (Nat.le_of_ble_eq_true rfl) dX8_clear_10 (fun H locs S => ?_)
    refine lv_iconst (pc := 13) hx hb dX8_clear_13 ic_0 ?_
    refine lv_istore_n (pc := 14) (lv' := [(2, .int (0 : Int32)), (0, .ref a_t), (1, .int x1)]) hx hb dX8_clear_14 rfl hl (by decide) rfl (fun ls hl => ?_)
    refine lv_aload_n (pc := 15) hx hb dX8_clear_15 rfl (lv_at hl 1 rfl) ?_
    refine lv_iload_n (pc := 16) hx hb dX8_clear_16 rfl (lv_at hl 2 rfl) ?_
    refine lv_iconst (pc := 17) hx hb dX8_clear_17 ic_3 ?_
    obtain ⟨r4, hq4, hf⟩ := bd_e hf
    refine x_vI (pc := 18) (As := [.int x1, .int (3 : Int32)]) (rest := []) (isC := [0, 1]) (ws' := (w_X8_clear G a_t a_t_s a_t_image a_t_mind a_t_aside a_t_text a_t_read a_t_comes a_t_begins a_t_latest a_t_move a_t_sort a_t_items a_t_cell a_t_carried t_isKept t_work t_kind t_letters t_at t_fault t_back t_waits t_miles t_loads t_bestRound t_bestPlace t_bestAdds t_regret t_z t_s o3_t_aside t_comes t_begins)) C S (c_X8_roundAt l G a_t a_t_s a_t_image a_t_mind a_t_aside a_t_text a_t_read a_t_comes a_t_begins a_t_latest a_t_move a_t_sort a_t_items a_t_cell a_t_carried t_isKept t_work t_kind t_letters t_at t_fault t_back t_waits t_miles t_loads t_bestRound t_bestPlace t_bestAdds t_regret t_z t_s x1 (3 : Int32) r4 hq4) (u_X8_clear_X8_roundAt_59 hts) (ci := 8) rfl 0 rfl rfl (by decide +kernel) [some 0, some 1, none, none, none] (by decide +kernel) rfl rfl rfl hl.1 rfl (Nat.le_of_ble_eq_true rfl) dX8_clear_18 (fun H locs S => ?_)
    refine lv_iconst (pc := 21) hx hb dX8_clear_21 ic_1 ?_
    refine lv_isub (pc := 22) hx hb dX8_clear_22 ?_
    refine lv_istore_n (pc := 23) (lv' := [(3, .int (r4 - (1 : Int32))), (2, .int (0 : Int32)), (0, .ref a_t), (1, .int x1)]) hx hb dX8_clear_23 rfl hl (by decide) rfl (fun ls hl => ?_)
    exact h_X8_clear_24 C (t_isKept) (t_work) (t_kind) (t_letters) (t_at) (t_fault) (t_back) (t_waits) (t_miles) (t_loads) (t_bestRound) (t_bestPlace) (t_bestAdds) (t_regret) (t_z) (o3_t_aside) (t_comes) (t_begins) (x1) fu ((0 : Int32)) ((r4 - (1 : Int32))) (t_s) hf S (lv_sub hl [2, 3, 1, 0] rfl)
  · have hf := ifp c2 hf
    refine lv_iconst (pc := 7) hx hb dX8_clear_7 ic_m1 ?_
    cases hf
    exact x_iret (pc := 8) C S dX8_clear_8
end

abbrev rm_X8_count : Room := { frames := 0, cells := 0, slots := 0, locals := 0 }
abbrev kw_X8_count : Cond := .code yX8_count cX8_count 2 (some .int)
abbrev w_X8_count (G : GE) (a_t a_t_s a_t_image a_t_mind a_t_aside a_t_text a_t_read a_t_comes a_t_begins a_t_latest a_t_move a_t_sort a_t_items a_t_cell a_t_carried : Nat) (t_isKept : Int32) (t_work : Int32) (t_kind : Int32) (t_letters : Int32) (t_at : Int32) (t_fault : Int32) (t_back : Int32) (t_waits : Int32) (t_miles : Int32) (t_loads : Int32) (t_bestRound : Int32) (t_bestPlace : Int32) (t_bestAdds : Int32) (t_regret : Int32) (t_z : Int32) (t_s : Nat → Int32) : va_W := [(a_t, ob 8 [.ref a_t_s, .ref a_t_image, .ref a_t_mind, .ref a_t_aside, .int t_isKept, .int t_work, .int t_kind, .ref a_t_text, .ref a_t_read, .int t_letters, .int t_at, .int t_fault, .ref a_t_comes, .ref a_t_begins, .ref a_t_latest, .int t_back, .int t_waits, .int t_miles, .int t_loads, .int t_bestRound, .int t_bestPlace, .int t_bestAdds, .int t_regret, .ref a_t_move, .ref a_t_sort, .ref a_t_items, .ref a_t_cell, .ref a_t_carried, .int t_z]), (a_t_s, aI G 258 t_s)]
section
variable {p : Program} {l : Launch} {e : Env} {s : State} {m : MethodId} {args : Array Value} {below : List Frame} {meth : Method} {c : Code} {A : Nat → Prop} {G : GE} {a_t a_t_s a_t_image a_t_mind a_t_aside a_t_text a_t_read a_t_comes a_t_begins a_t_latest a_t_move a_t_sort a_t_items a_t_cell a_t_carried : Nat} {r : Int32}
set_option maxRecDepth 100000 in
set_option maxHeartbeats 4000000 in
theorem c_X8_count (l : Launch) (G : GE) (a_t a_t_s a_t_image a_t_mind a_t_aside a_t_text a_t_read a_t_comes a_t_begins a_t_latest a_t_move a_t_sort a_t_items a_t_cell a_t_carried : Nat) (t_isKept : Int32) (t_work : Int32) (t_kind : Int32) (t_letters : Int32) (t_at : Int32) (t_fault : Int32) (t_back : Int32) (t_waits : Int32) (t_miles : Int32) (t_loads : Int32) (t_bestRound : Int32) (t_bestPlace : Int32) (t_bestAdds : Int32) (t_regret : Int32) (t_z : Int32) (t_s : Nat → Int32) (x1 : Int32) (r : Int32) (hf : f_X8_count t_s t_work t_letters x1 = some r) : CI l G yX8_count kw_X8_count rm_X8_count [.ref a_t, .int x1] (w_X8_count G a_t a_t_s a_t_image a_t_mind a_t_aside a_t_text a_t_read a_t_comes a_t_begins a_t_latest a_t_move a_t_sort a_t_items a_t_cell a_t_carried t_isKept t_work t_kind t_letters t_at t_fault t_back t_waits t_miles t_loads t_bestRound t_bestPlace t_bestAdds t_regret t_z t_s) r (w_X8_count G a_t a_t_s a_t_image a_t_mind a_t_aside a_t_text a_t_read a_t_comes a_t_begins a_t_latest a_t_move a_t_sort a_t_items a_t_cell a_t_carried t_isKept t_work t_kind t_letters t_at t_fault t_back t_waits t_miles t_loads t_bestRound t_bestPlace t_bestAdds t_regret t_z t_s) := by
  refine en_I (cc := cX8_count) (maxL := 2) (ret := (some .int)) (by decide +kernel) (Nat.le_of_ble_eq_true rfl) ?_
  intro p e s m args below meth c A ls C S hl
  have hl : lv_has ls 2 [(0, .ref a_t), (1, .int x1)] := hl
  have C : Cx p s m args meth c cX8_count (some .int) 2 RX8 G A := C
  unfold f_X8_count at hf
  have hx := C.1
  have hb := C.2.1
  have hown := C.2.2.2.2.1
  have hts := C.2.2.2.2.2.1
  have hN := C.2.2.2.2.2.2.2.2.2.2
  refine lv_iload_n (pc := 0) hx hb dX8_count_0 rfl (lv_at hl 1 rfl) ?_
  by_cases s1_0 : x1 = (0 : Int32)
  · have hf := ifp s1_0 hf
    refine lv_tableIn (tgt := 40) (off := 39) (x := x1) (pc := 1) hx hb dX8_count_1 (by rw [s1_0]; decide) (by rw [s1_0]; decide) (by rw [s1_0]; decide) (by decide) ?_
    refine lv_aload_n (pc := 40) hx hb dX8_count_40 rfl (lv_at hl 0 rfl) ?_
    refine x_get (pc := 41) (ci := 8) (T := TX8) (v := .ref a_t_s) C S 0 rfl rfl inlX8 0 (by decide) rfl qf_8_11 rfl dX8_count_41 ?_
    refine lv_iconst (pc := 44) hx hb dX8_count_44 ic_4 ?_
    refine x_iald (pc := 45) C S 1 rfl (vp_in_iff.mpr (by decide)) dX8_count_45 ?_
    cases hf
    exact x_iret (pc := 46) C S dX8_count_46
  have hf := ifn s1_0 hf
  by_cases s1_1 : x1 = (1 : Int32)
  · have hf := ifp s1_1 hf
    refine lv_tableIn (tgt := 47) (off := 46) (x := x1) (pc := 1) hx hb dX8_count_1 (by rw [s1_1]; decide) (by rw [s1_1]; decide) (by rw [s1_1]; decide) (by decide) ?_
    refine lv_aload_n (pc := 47) hx hb dX8_count_47 rfl (lv_at hl 0 rfl) ?_
    refine x_get (pc := 48) (ci := 8) (T := TX8) (v := .ref a_t_s) C S 0 rfl rfl inlX8 0 (by decide) rfl qf_8_11 rfl dX8_count_48 ?_
    refine lv_iconst (pc := 51) hx hb dX8_count_51 ic_5 ?_
    refine x_iald (pc := 52) C S 1 rfl (vp_in_iff.mpr (by decide)) dX8_count_52 ?_
    cases hf
    exact x_iret (pc := 53) C S dX8_count_53
  have hf := ifn s1_1 hf
  by_cases s1_2 : x1 = (2 : Int32)
  · have hf := ifp s1_2 hf
    refine lv_tableIn (tgt := 54) (off := 53) (x := x1) (pc := 1) hx hb dX8_count_1 (by rw [s1_2]; decide) (by rw [s1_2]; decide) (by rw [s1_2]; decide) (by decide) ?_
    refine lv_aload_n (pc := 54) hx hb dX8_count_54 rfl (lv_at hl 0 rfl) ?_
    refine x_get (pc := 55) (ci := 8) (T := TX8) (v := .ref a_t_s) C S 0 rfl rfl inlX8 0 (by decide) rfl qf_8_11 rfl dX8_count_55 ?_
    refine lv_bipush (pc := 58) hx hb dX8_count_58 bc_6 ?_
    refine x_iald (pc := 60) C S 1 rfl (vp_in_iff.mpr (by decide)) dX8_count_60 ?_
    cases hf
    exact x_iret (pc := 61) C S dX8_count_61
  have hf := ifn s1_2 hf
  by_cases s1_3 : x1 = (3 : Int32)
  · have hf := ifp s1_3 hf
    refine lv_tableIn (tgt := 62) (off := 61) (x := x1) (pc := 1) hx hb dX8_count_1 (by rw [s1_3]; decide) (by rw [s1_3]; decide) (by rw [s1_3]; decide) (by decide) ?_
    refine lv_aload_n (pc := 62) hx hb dX8_count_62 rfl (lv_at hl 0 rfl) ?_
    refine x_get (pc := 63) (ci := 8) (T := TX8) (v := .ref a_t_s) C S 0 rfl rfl inlX8 0 (by decide) rfl qf_8_11 rfl dX8_count_63 ?_
    refine lv_bipush (pc := 66) hx hb dX8_count_66 bc_7 ?_
    refine x_iald (pc := 68) C S 1 rfl (vp_in_iff.mpr (by decide)) dX8_count_68 ?_
    cases hf
    exact x_iret (pc := 69) C S dX8_count_69
  have hf := ifn s1_3 hf
  by_cases s1_4 : x1 = (4 : Int32)
  · have hf := ifp s1_4 hf
    refine lv_tableIn (tgt := 70) (off := 69) (x := x1) (pc := 1) hx hb dX8_count_1 (by rw [s1_4]; decide) (by rw [s1_4]; decide) (by rw [s1_4]; decide) (by decide) ?_
    refine lv_aload_n (pc := 70) hx hb dX8_count_70 rfl (lv_at hl 0 rfl) ?_
    refine x_get (pc := 71) (ci := 8) (T := TX8) (v := .int t_letters) C S 0 rfl rfl inlX8 9 (by decide) rfl qf_8_121 rfl dX8_count_71 ?_
    cases hf
    exact x_iret (pc := 74) C S dX8_count_74
  have hf := ifn s1_4 hf
  by_cases s1_5 : x1 = (5 : Int32)
  · have hf := ifp s1_5 hf
    refine lv_tableIn (tgt := 75) (off := 74) (x := x1) (pc := 1) hx hb dX8_count_1 (by rw [s1_5]; decide) (by rw [s1_5]; decide) (by rw [s1_5]; decide) (by decide) ?_
    refine lv_aload_n (pc := 75) hx hb dX8_count_75 rfl (lv_at hl 0 rfl) ?_
    refine x_get (pc := 76) (ci := 8) (T := TX8) (v := .int t_work) C S 0 rfl rfl inlX8 5 (by decide) rfl qf_8_205 rfl dX8_count_76 ?_
    cases hf
    exact x_iret (pc := 79) C S dX8_count_79
  have hf := ifn s1_5 hf
  have z1_0 := lv_neT (a := 0) s1_0 (by decide)
  have z1_1 := lv_neT (a := 1) s1_1 (by decide)
  have z1_2 := lv_neT (a := 2) s1_2 (by decide)
  have z1_3 := lv_neT (a := 3) s1_3 (by decide)
  have z1_4 := lv_neT (a := 4) s1_4 (by decide)
  have z1_5 := lv_neT (a := 5) s1_5 (by decide)
  refine lv_tableOut (tgt := 80) (x := x1) (pc := 1) hx hb dX8_count_1 (by omega) (by decide) ?_
  refine lv_bipush (pc := 80) hx hb dX8_count_80 bc_m2 ?_
  cases hf
  exact x_iret (pc := 82) C S dX8_count_82
end

abbrev rm_X8_isTold : Room := { frames := 1, cells := 0, slots := 0, locals := 22 }
abbrev kw_X8_isTold : Cond := .code yX8_isTold cX8_isTold 2 (some .boolean)
abbrev w_X8_isTold (G : GE) : va_W := []
theorem u_X8_isTold_X8_isIn_55 {s : State} {args : Array Value} (hts : ∀ w ∈ WU, w.before args s = true) : CallB rm_X8_isTold s args RX8 55 yX8_isIn cX8_isIn 3 (some .boolean) (kw_X8_isIn :: WU) rm_X8_isIn 0 0 3 ∧ (Cond.static yX8_isIn).before args s = true := va_cwS 3 hts (gS qm_8_55 qs_X8_isIn qn_8 qc_X8_isIn) rfl rfl rfl (by decide +kernel) ⟨Nat.le_of_ble_eq_true rfl, Nat.le_of_ble_eq_true rfl⟩
section
variable {p : Program} {l : Launch} {e : Env} {s : State} {m : MethodId} {args : Array Value} {below : List Frame} {meth : Method} {c : Code} {A : Nat → Prop} {G : GE} {r : Int32}
set_option maxRecDepth 100000 in
set_option maxHeartbeats 4000000 in
theorem k_X8_isTold_35 (C : Cx p s m args meth c cX8_isTold (some .boolean) 2 RX8 G A) (y0 : Int32) (y1 : Int32) (y2 : Int32) {H : Heap} {locs : List Loc} {ls : Array Slot} (hf : b_X8_isTold_35 y0 y1 y2 = some r) (S : St G A s.heap H locs (w_X8_isTold G )) (hl : lv_has ls 2 []) : W p l e rm_X8_isTold s m args below meth c H locs 0 0 (QI G below args s A r (w_X8_isTold G )) (F0 m 35 ls [.int y2, .int y1, .int y0]) := by
  unfold b_X8_isTold_35 at hf
  have hx := C.1
  have hb := C.2.1
  have hown := C.2.2.2.2.1
  have hts := C.2.2.2.2.2.1
  have hN := C.2.2.2.2.2.2.2.2.2.2
  obtain ⟨r1, hq1, hf⟩ := bd_e hf
  refine x_sI (pc := 35) (As := [.int y0, .int y1, .int y2]) (rest := []) (isC := []) (ws' := (w_X8_isTold G )) C S (c_X8_isIn l G y0 y1 y2 r1 hq1) (u_X8_isTold_X8_isIn_55 hts) rfl (by decide +kernel) [] (by decide +kernel) rfl rfl rfl hl.1 rfl (Nat.le_of_ble_eq_true rfl) dX8_isTold_35 (fun H locs S => ?_)
  obtain ⟨hz2, hf⟩ := gd_e hf
  cases hf
  exact x_zret (pc := 38) hz2 C S dX8_isTold_38
set_option maxRecDepth 100000 in
set_option maxHeartbeats 4000000 in
theorem c_X8_isTold (l : Launch) (G : GE) (x0 : Int32) (x1 : Int32) (r : Int32) (hf : f_X8_isTold x0 x1 = some r) : CI l G yX8_isTold kw_X8_isTold rm_X8_isTold [.int x0, .int x1] (w_X8_isTold G ) r (w_X8_isTold G ) := by
  refine en_I (cc := cX8_isTold) (maxL := 2) (ret := (some .boolean)) (by decide +kernel) (Nat.le_of_ble_eq_true rfl) ?_
  intro p e s m args below meth c A ls C S hl
  have hl : lv_has ls 2 [(0, .int x0), (1, .int x1)] := hl
  have C : Cx p s m args meth c cX8_isTold (some .boolean) 2 RX8 G A := C
  unfold f_X8_isTold at hf
  have hx := C.1
  have hb := C.2.1
  have hown := C.2.2.2.2.1
  have hts := C.2.2.2.2.2.1
  have hN := C.2.2.2.2.2.2.2.2.2.2
  refine lv_iload_n (pc := 0) hx hb dX8_isTold_0 rfl (lv_at hl 1 rfl) ?_
  refine lv_iconst (pc := 1) hx hb dX8_isTold_1 ic_0 ?_
  refine lv_iload_n (pc := 2) hx hb dX8_isTold_2 rfl (lv_at hl 0 rfl) ?_
  refine lv_iconst (pc := 3) hx hb dX8_isTold_3 ic_2 ?_
  refine lv_icmp_ge (tgt := 12) (pc := 4) hx hb dX8_isTold_4 (by decide) (fun c1 => ?_) (fun c1 => ?_)
  · have hf := ifp c1 hf
    refine lv_iload_n (pc := 12) hx hb dX8_isTold_12 rfl (lv_at hl 0 rfl) ?_
    refine lv_iconst (pc := 13) hx hb dX8_isTold_13 ic_2 ?_
    refine lv_icmp_ne (tgt := 22) (pc := 14) hx hb dX8_isTold_14 (by decide) (fun c2 => ?_) (fun c2 => ?_)
    · have hf := ifn c2 hf
      refine lv_iload_n (pc := 22) hx hb dX8_isTold_22 rfl (lv_at hl 0 rfl) ?_
      refine lv_iconst (pc := 23) hx hb dX8_isTold_23 ic_5 ?_
      refine lv_icmp_ne (tgt := 32) (pc := 24) hx hb dX8_isTold_24 (by decide) (fun c3 => ?_) (fun c3 => ?_)
      · have hf := ifn c3 hf
        refine lv_sipush (pc := 32) hx hb dX8_isTold_32 sc_999 ?_
        exact k_X8_isTold_35 C  (x1) ((0 : Int32)) ((999 : Int32)) hf S (lv_sub hl [] rfl)
      · have hf := ifp c3 hf
        refine lv_bipush (pc := 27) hx hb dX8_isTold_27 bc_30 ?_
        refine lv_goto (tgt := 35) (pc := 29) hx hb dX8_isTold_29 (by decide) ?_
        exact k_X8_isTold_35 C  (x1) ((0 : Int32)) ((30 : Int32)) hf S (lv_sub hl [] rfl)
    · have hf := ifp c2 hf
      refine lv_bipush (pc := 17) hx hb dX8_isTold_17 bc_20 ?_
      refine lv_goto (tgt := 35) (pc := 19) hx hb dX8_isTold_19 (by decide) ?_
      exact k_X8_isTold_35 C  (x1) ((0 : Int32)) ((20 : Int32)) hf S (lv_sub hl [] rfl)
  · have hf := ifn c1 hf
    refine lv_bipush (pc := 7) hx hb dX8_isTold_7 bc_63 ?_
    refine lv_goto (tgt := 35) (pc := 9) hx hb dX8_isTold_9 (by decide) ?_
    exact k_X8_isTold_35 C  (x1) ((0 : Int32)) ((63 : Int32)) hf S (lv_sub hl [] rfl)
end

abbrev rm_X8_depot : Room := { frames := 6, cells := 0, slots := 0, locals := 141 }
abbrev kw_X8_depot : Cond := .code yX8_depot cX8_depot 5 (some .int)
abbrev w_X8_depot (G : GE) (a_t a_t_s a_t_image a_t_mind a_t_aside a_t_text a_t_read a_t_comes a_t_begins a_t_latest a_t_move a_t_sort a_t_items a_t_cell a_t_carried : Nat) (t_isKept : Int32) (t_work : Int32) (t_kind : Int32) (t_letters : Int32) (t_at : Int32) (t_fault : Int32) (t_back : Int32) (t_waits : Int32) (t_miles : Int32) (t_loads : Int32) (t_bestRound : Int32) (t_bestPlace : Int32) (t_bestAdds : Int32) (t_regret : Int32) (t_z : Int32) (t_s : Nat → Int32) (t_comes : Nat → Int32) (t_begins : Nat → Int32) : va_W := [(a_t, ob 8 [.ref a_t_s, .ref a_t_image, .ref a_t_mind, .ref a_t_aside, .int t_isKept, .int t_work, .int t_kind, .ref a_t_text, .ref a_t_read, .int t_letters, .int t_at, .int t_fault, .ref a_t_comes, .ref a_t_begins, .ref a_t_latest, .int t_back, .int t_waits, .int t_miles, .int t_loads, .int t_bestRound, .int t_bestPlace, .int t_bestAdds, .int t_regret, .ref a_t_move, .ref a_t_sort, .ref a_t_items, .ref a_t_cell, .ref a_t_carried, .int t_z]), (a_t_s, aI G 258 t_s), (a_t_comes, aI G 16 t_comes), (a_t_begins, aI G 16 t_begins)]
theorem u_X8_depot_X8_isTold_114 {s : State} {args : Array Value} (hts : ∀ w ∈ WU, w.before args s = true) : CallB rm_X8_depot s args RX8 114 yX8_isTold cX8_isTold 2 (some .boolean) (kw_X8_isTold :: WU) rm_X8_isTold 0 0 2 ∧ (Cond.static yX8_isTold).before args s = true := va_cwS 2 hts (gS qm_8_114 qs_X8_isTold qn_8 qc_X8_isTold) rfl rfl rfl (by decide +kernel) ⟨Nat.le_of_ble_eq_true rfl, Nat.le_of_ble_eq_true rfl⟩
theorem u_X8_depot_X8_allHold_147 {s : State} {args : Array Value} (hts : ∀ w ∈ WU, w.before args s = true) : CallW rm_X8_depot s args RX8 RX8 147 yX8_allHold cX8_allHold 2 (some .boolean) (kw_X8_allHold :: WU) rm_X8_allHold 0 0 0 := cwV 0 hts (gV qm_8_147 qi_X8_allHold ql_X8_allHold qn_8 qc_X8_allHold) rfl rfl rfl (by decide +kernel) ⟨Nat.le_of_ble_eq_true rfl, Nat.le_of_ble_eq_true rfl⟩
theorem u_X8_depot_X8_apart_81 {s : State} {args : Array Value} (hts : ∀ w ∈ WU, w.before args s = true) : CallW rm_X8_depot s args RX8 RX8 81 yX8_apart cX8_apart 7 (some .int) (kw_X8_apart :: WU) rm_X8_apart 0 0 4 := cwV 4 hts (gV qm_8_81 qi_X8_apart ql_X8_apart qn_8 qc_X8_apart) rfl rfl rfl (by decide +kernel) ⟨Nat.le_of_ble_eq_true rfl, Nat.le_of_ble_eq_true rfl⟩
section
variable {p : Program} {l : Launch} {e : Env} {s : State} {m : MethodId} {args : Array Value} {below : List Frame} {meth : Method} {c : Code} {A : Nat → Prop} {G : GE} {a_t a_t_s a_t_image a_t_mind a_t_aside a_t_text a_t_read a_t_comes a_t_begins a_t_latest a_t_move a_t_sort a_t_items a_t_cell a_t_carried : Nat} {r : Int32} {z_t_s : Nat → Int32} {z_t_comes : Nat → Int32} {z_t_begins : Nat → Int32} {z_t_back : Int32} {z_t_waits : Int32} {z_t_loads : Int32}
set_option maxRecDepth 100000 in
set_option maxHeartbeats 4000000 in
theorem c_X8_depot (l : Launch) (G : GE) (a_t a_t_s a_t_image a_t_mind a_t_aside a_t_text a_t_read a_t_comes a_t_begins a_t_latest a_t_move a_t_sort a_t_items a_t_cell a_t_carried : Nat) (t_isKept : Int32) (t_work : Int32) (t_kind : Int32) (t_letters : Int32) (t_at : Int32) (t_fault : Int32) (t_back : Int32) (t_waits : Int32) (t_miles : Int32) (t_loads : Int32) (t_bestRound : Int32) (t_bestPlace : Int32) (t_bestAdds : Int32) (t_regret : Int32) (t_z : Int32) (t_s : Nat → Int32) (t_comes : Nat → Int32) (t_begins : Nat → Int32) (x1 : Int32) (x2 : Int32) (r : Int32) (z_t_s : Nat → Int32) (z_t_comes : Nat → Int32) (z_t_begins : Nat → Int32) (z_t_back : Int32) (z_t_waits : Int32) (z_t_loads : Int32) (hf : f_X8_depot t_s t_comes t_begins t_back t_waits t_loads x1 x2 = some (r, z_t_s, z_t_comes, z_t_begins, z_t_back, z_t_waits, z_t_loads)) : CI l G yX8_depot kw_X8_depot rm_X8_depot [.ref a_t, .int x1, .int x2] (w_X8_depot G a_t a_t_s a_t_image a_t_mind a_t_aside a_t_text a_t_read a_t_comes a_t_begins a_t_latest a_t_move a_t_sort a_t_items a_t_cell a_t_carried t_isKept t_work t_kind t_letters t_at t_fault t_back t_waits t_miles t_loads t_bestRound t_bestPlace t_bestAdds t_regret t_z t_s t_comes t_begins) r (w_X8_depot G a_t a_t_s a_t_image a_t_mind a_t_aside a_t_text a_t_read a_t_comes a_t_begins a_t_latest a_t_move a_t_sort a_t_items a_t_cell a_t_carried t_isKept t_work t_kind t_letters t_at t_fault z_t_back z_t_waits t_miles z_t_loads t_bestRound t_bestPlace t_bestAdds t_regret t_z z_t_s z_t_comes z_t_begins) := by
  refine en_I (cc := cX8_depot) (maxL := 5) (ret := (some .int)) (by decide +kernel) (Nat.le_of_ble_eq_true rfl) ?_
  intro p e s m args below meth c A ls C S hl
  have hl : lv_has ls 5 [(0, .ref a_t), (1, .int x1), (2, .int x2)] := hl
  have C : Cx p s m args meth c cX8_depot (some .int) 5 RX8 G A := C
  unfold f_X8_depot at hf
  have hx := C.1
  have hb := C.2.1
  have hown := C.2.2.2.2.1
  have hts := C.2.2.2.2.2.1
  have hN := C.2.2.2.2.2.2.2.2.2.2
  refine lv_iconst (pc := 0) hx hb dX8_depot_0 ic_0 ?_
  refine lv_iload_n (pc := 1) hx hb dX8_depot_1 rfl (lv_at hl 1 rfl) ?_
  obtain ⟨r1, hq1, hf⟩ := bd_e hf
  refine x_sI (pc := 2) (As := [.int (0 : Int32), .int x1]) (rest := []) (isC := []) (ws' := (w_X8_depot G a_t a_t_s a_t_image a_t_mind a_t_aside a_t_text a_t_read a_t_comes a_t_begins a_t_latest a_t_move a_t_sort a_t_items a_t_cell a_t_carried t_isKept t_work t_kind t_letters t_at t_fault t_back t_waits t_miles t_loads t_bestRound t_bestPlace t_bestAdds t_regret t_z t_s t_comes t_begins)) C S (c_X8_isTold l G (0 : Int32) x1 r1 hq1) (u_X8_depot_X8_isTold_114 hts) rfl (by decide +kernel) [none, none, none, none] (by decide +kernel) rfl rfl rfl hl.1 rfl (Nat.le_of_ble_eq_true rfl) dX8_depot_2 (fun H locs S => ?_)
  refine lv_if_eq (tgt := 16) (pc := 5) hx hb dX8_depot_5 (by decide) (fun c2 => ?_) (fun c2 => ?_)
  · have hf := ifp c2 hf
    refine lv_bipush (pc := 16) hx hb dX8_depot_16 bc_m2 ?_
    cases hf
    exact x_iret (pc := 18) C S dX8_depot_18
  · have hf := ifn c2 hf
    refine lv_iconst (pc := 8) hx hb dX8_depot_8 ic_1 ?_
    refine lv_iload_n (pc := 9) hx hb dX8_depot_9 rfl (lv_at hl 2 rfl) ?_
    obtain ⟨r3, hq3, hf⟩ := bd_e hf
    refine x_sI (pc := 10) (As := [.int (1 : Int32), .int x2]) (rest := []) (isC := []) (ws' := (w_X8_depot G a_t a_t_s a_t_image a_t_mind a_t_aside a_t_text a_t_read a_t_comes a_t_begins a_t_latest a_t_move a_t_sort a_t_items a_t_cell a_t_carried t_isKept t_work t_kind t_letters t_at t_fault t_back t_waits t_miles t_loads t_bestRound t_bestPlace t_bestAdds t_regret t_z t_s t_comes t_begins)) C S (c_X8_isTold l G (1 : Int32) x2 r3 hq3) (u_X8_depot_X8_isTold_114 hts) rfl (by decide +kernel) [none, none, none, none] (by decide +kernel) rfl rfl rfl hl.1 rfl (Nat.le_of_ble_eq_true rfl) dX8_depot_10 (fun H locs S => ?_)
    refine lv_if_ne (tgt := 19) (pc := 13) hx hb dX8_depot_13 (by decide) (fun c4 => ?_) (fun c4 => ?_)
    · have hf := ifn c4 hf
      refine lv_aload_n (pc := 19) hx hb dX8_depot_19 rfl (lv_at hl 0 rfl) ?_
      refine x_get (pc := 20) (ci := 8) (T := TX8) (v := .ref a_t_s) C S 0 rfl rfl inlX8 0 (by decide) rfl qf_8_11 rfl dX8_depot_20 ?_
      refine lv_iconst (pc := 23) hx hb dX8_depot_23 ic_0 ?_
      refine x_iald (pc := 24) C S 1 rfl (vp_in_iff.mpr (by decide)) dX8_depot_24 ?_
      refine lv_istore_n (pc := 25) (lv' := [(3, .int (t_s (0 : Int32).toNatClampNeg)), (0, .ref a_t), (1, .int x1), (2, .int x2)]) hx hb dX8_depot_25 rfl hl (by decide) rfl (fun ls hl => ?_)
      refine lv_aload_n (pc := 26) hx hb dX8_depot_26 rfl (lv_at hl 1 rfl) ?_
      refine x_get (pc := 27) (ci := 8) (T := TX8) (v := .ref a_t_s) C S 0 rfl rfl inlX8 0 (by decide) rfl qf_8_11 rfl dX8_depot_27 ?_
      refine lv_iconst (pc := 30) hx hb dX8_depot_30 ic_1 ?_
      refine x_iald (pc := 31) C S 1 rfl (vp_in_iff.mpr (by decide)) dX8_depot_31 ?_
      refine lv_istore (pc := 32) (lv' := [(4, .int (t_s (1 : Int32).toNatClampNeg)), (3, .int (t_s (0 : Int32).toNatClampNeg)), (0, .ref a_t), (1, .int x1), (2, .int x2)]) hx hb dX8_depot_32 hl (by decide) rfl (fun ls hl => ?_)
      refine lv_aload_n (pc := 34) hx hb dX8_depot_34 rfl (lv_at hl 2 rfl) ?_
      refine x_get (pc := 35) (ci := 8) (T := TX8) (v := .ref a_t_s) C S 0 rfl rfl inlX8 0 (by decide) rfl qf_8_11 rfl dX8_depot_35 ?_
      refine lv_iconst (pc := 38) hx hb dX8_depot_38 ic_0 ?_
      refine lv_iload_n (pc := 39) hx hb dX8_depot_39 rfl (lv_at hl 3 rfl) ?_
      refine x_iast (pc := 40) (ws' := (w_X8_depot G a_t a_t_s a_t_image a_t_mind a_t_aside a_t_text a_t_read a_t_comes a_t_begins a_t_latest a_t_move a_t_sort a_t_items a_t_cell a_t_carried t_isKept t_work t_kind t_letters t_at t_fault t_back t_waits t_miles t_loads t_bestRound t_bestPlace t_bestAdds t_regret t_z (upd t_s (0 : Int32).toNatClampNeg x1) t_comes t_begins)) C S 1 rfl (vp_in_iff.mpr (by decide)) rfl dX8_depot_40 (fun H locs S => ?_)
      refine lv_aload_n (pc := 41) hx hb dX8_depot_41 rfl (lv_at hl 2 rfl) ?_
      refine x_get (pc := 42) (ci := 8) (T := TX8) (v := .ref a_t_s) C S 0 rfl rfl inlX8 0 (by decide) rfl qf_8_11 rfl dX8_depot_42 ?_
      refine lv_iconst (pc := 45) hx hb dX8_depot_45 ic_1 ?_
      refine lv_iload_n (pc := 46) hx hb dX8_depot_46 rfl (lv_at hl 4 rfl) ?_
      refine x_iast (pc := 47) (ws' := (w_X8_depot G a_t a_t_s a_t_image a_t_mind a_t_aside a_t_text a_t_read a_t_comes a_t_begins a_t_latest a_t_move a_t_sort a_t_items a_t_cell a_t_carried t_isKept t_work t_kind t_letters t_at t_fault t_back t_waits t_miles t_loads t_bestRound t_bestPlace t_bestAdds t_regret t_z (upd (upd t_s (0 : Int32).toNatClampNeg x1) (1 : Int32).toNatClampNeg x2) t_comes t_begins)) C S 1 rfl (vp_in_iff.mpr (by decide)) rfl dX8_depot_47 (fun H locs S => ?_)
      refine lv_aload_n (pc := 48) hx hb dX8_depot_48 rfl (lv_at hl 2 rfl) ?_
      obtain ⟨⟨r5, o5_t_comes, o5_t_begins, o5_t_back, o5_t_waits, o5_t_loads⟩, hq5, hf⟩ := bd_e hf
      refine x_vI (pc := 49) (As := []) (rest := []) (isC := [0, 1, 2, 3]) (ws' := (w_X8_depot G a_t a_t_s a_t_image a_t_mind a_t_aside a_t_text a_t_read a_t_comes a_t_begins a_t_latest a_t_move a_t_sort a_t_items a_t_cell a_t_carried t_isKept t_work t_kind t_letters t_at t_fault o5_t_back o5_t_waits t_miles o5_t_loads t_bestRound t_bestPlace t_bestAdds t_regret t_z (upd (upd t_s (0 : Int32).toNatClampNeg x1) (1 : Int32).toNatClampNeg x2) o5_t_comes o5_t_begins)) C S (c_X8_allHold l G a_t a_t_s a_t_image a_t_mind a_t_aside a_t_text a_t_read a_t_comes a_t_begins a_t_latest a_t_move a_t_sort a_t_items a_t_cell a_t_carried t_isKept t_work t_kind t_letters t_at t_fault t_back t_waits t_miles t_loads t_bestRound t_bestPlace t_bestAdds t_regret t_z (upd (upd t_s (0 : Int32).toNatClampNeg x1) (1 : Int32).toNatClampNeg x2) t_comes t_begins r5 o5_t_comes o5_t_begins o5_t_back o5_t_waits o5_t_loads hq5) (u_X8_depot_X8_allHold_147 hts) (ci := 8) rfl 0 rfl rfl (by decide +kernel) [some 0, some 1, some 2, some 3] (by decide +kernel) rfl rfl rfl hl.1 rfl (Nat.le_of_ble_eq_true rfl) dX8_depot_49 (fun H locs S => ?_)
      refine lv_if_eq (tgt := 65) (pc := 52) hx hb dX8_depot_52 (by decide) (fun c6 => ?_) (fun c6 => ?_)
      · have hf := ifp c6 hf
        refine lv_aload_n (pc := 65) hx hb dX8_depot_65 rfl (lv_at hl 2 rfl) ?_
        refine x_get (pc := 66) (ci := 8) (T := TX8) (v := .ref a_t_s) C S 0 rfl rfl inlX8 0 (by decide) rfl qf_8_11 rfl dX8_depot_66 ?_
        refine lv_iconst (pc := 69) hx hb dX8_depot_69 ic_0 ?_
        refine lv_iload_n (pc := 70) hx hb dX8_depot_70 rfl (lv_at hl 1 rfl) ?_
        refine x_iast (pc := 71) (ws' := (w_X8_depot G a_t a_t_s a_t_image a_t_mind a_t_aside a_t_text a_t_read a_t_comes a_t_begins a_t_latest a_t_move a_t_sort a_t_items a_t_cell a_t_carried t_isKept t_work t_kind t_letters t_at t_fault o5_t_back o5_t_waits t_miles o5_t_loads t_bestRound t_bestPlace t_bestAdds t_regret t_z (upd (upd (upd t_s (0 : Int32).toNatClampNeg x1) (1 : Int32).toNatClampNeg x2) (0 : Int32).toNatClampNeg (t_s (0 : Int32).toNatClampNeg)) o5_t_comes o5_t_begins)) C S 1 rfl (vp_in_iff.mpr (by decide)) rfl dX8_depot_71 (fun H locs S => ?_)
        refine lv_aload_n (pc := 72) hx hb dX8_depot_72 rfl (lv_at hl 2 rfl) ?_
        refine x_get (pc := 73) (ci := 8) (T := TX8) (v := .ref a_t_s) C S 0 rfl rfl inlX8 0 (by decide) rfl qf_8_11 rfl dX8_depot_73 ?_
        refine lv_iconst (pc := 76) hx hb dX8_depot_76 ic_1 ?_
        refine lv_iload (pc := 77) hx hb dX8_depot_77 (lv_at hl 0 rfl) ?_
        refine x_iast (pc := 79) (ws' := (w_X8_depot G a_t a_t_s a_t_image a_t_mind a_t_aside a_t_text a_t_read a_t_comes a_t_begins a_t_latest a_t_move a_t_sort a_t_items a_t_cell a_t_carried t_isKept t_work t_kind t_letters t_at t_fault o5_t_back o5_t_waits t_miles o5_t_loads t_bestRound t_bestPlace t_bestAdds t_regret t_z (upd (upd (upd (upd t_s (0 : Int32).toNatClampNeg x1) (1 : Int32).toNatClampNeg x2) (0 : Int32).toNatClampNeg (t_s (0 : Int32).toNatClampNeg)) (1 : Int32).toNatClampNeg (t_s (1 : Int32).toNatClampNeg)) o5_t_comes o5_t_begins)) C S 1 rfl (vp_in_iff.mpr (by decide)) rfl dX8_depot_79 (fun H locs S => ?_)
        refine lv_bipush (pc := 80) hx hb dX8_depot_80 bc_m3 ?_
        cases hf
        exact x_iret (pc := 82) C S dX8_depot_82
      · have hf := ifn c6 hf
        refine lv_aload_n (pc := 55) hx hb dX8_depot_55 rfl (lv_at hl 2 rfl) ?_
        refine lv_iload_n (pc := 56) hx hb dX8_depot_56 rfl (lv_at hl 3 rfl) ?_
        refine lv_iload_n (pc := 57) hx hb dX8_depot_57 rfl (lv_at hl 4 rfl) ?_
        refine lv_iload_n (pc := 58) hx hb dX8_depot_58 rfl (lv_at hl 1 rfl) ?_
        refine lv_iload (pc := 59) hx hb dX8_depot_59 (lv_at hl 0 rfl) ?_
        obtain ⟨r7, hq7, hf⟩ := bd_e hf
        refine x_vI (pc := 61) (As := [.int x1, .int x2, .int (t_s (0 : Int32).toNatClampNeg), .int (t_s (1 : Int32).toNatClampNeg)]) (rest := []) (isC := [0, 1]) (ws' := (w_X8_depot G a_t a_t_s a_t_image a_t_mind a_t_aside a_t_text a_t_read a_t_comes a_t_begins a_t_latest a_t_move a_t_sort a_t_items a_t_cell a_t_carried t_isKept t_work t_kind t_letters t_at t_fault o5_t_back o5_t_waits t_miles o5_t_loads t_bestRound t_bestPlace t_bestAdds t_regret t_z (upd (upd t_s (0 : Int32).toNatClampNeg x1) (1 : Int32).toNatClampNeg x2) o5_t_comes o5_t_begins)) C S (c_X8_apart l G a_t a_t_s a_t_image a_t_mind a_t_aside a_t_text a_t_read a_t_comes a_t_begins a_t_latest a_t_move a_t_sort a_t_items a_t_cell a_t_carried t_isKept t_work t_kind t_letters t_at t_fault o5_t_back o5_t_waits t_miles o5_t_loads t_bestRound t_bestPlace t_bestAdds t_regret t_z (upd (upd t_s (0 : Int32).toNatClampNeg x1) (1 : Int32).toNatClampNeg x2) x1 x2 (t_s (0 : Int32).toNatClampNeg) (t_s (1 : Int32).toNatClampNeg) r7 hq7) (u_X8_depot_X8_apart_81 hts) (ci := 8) rfl 0 rfl rfl (by decide +kernel) [some 0, some 1, none, none] (by decide +kernel) rfl rfl rfl hl.1 rfl (Nat.le_of_ble_eq_true rfl) dX8_depot_61 (fun H locs S => ?_)
        cases hf
        exact x_iret (pc := 64) C S dX8_depot_64
    · have hf := ifp c4 hf
      refine lv_bipush (pc := 16) hx hb dX8_depot_16 bc_m2 ?_
      cases hf
      exact x_iret (pc := 18) C S dX8_depot_18
end

abbrev rm_X8_doesBest : Room := { frames := 4, cells := 0, slots := 0, locals := 93 }
abbrev kw_X8_doesBest : Cond := .code yX8_doesBest cX8_doesBest 2 none
abbrev w_X8_doesBest (G : GE) (a_t a_t_s a_t_image a_t_mind a_t_aside a_t_text a_t_read a_t_comes a_t_begins a_t_latest a_t_move a_t_sort a_t_items a_t_cell a_t_carried : Nat) (t_isKept : Int32) (t_work : Int32) (t_kind : Int32) (t_letters : Int32) (t_at : Int32) (t_fault : Int32) (t_back : Int32) (t_waits : Int32) (t_miles : Int32) (t_loads : Int32) (t_bestRound : Int32) (t_bestPlace : Int32) (t_bestAdds : Int32) (t_regret : Int32) (t_z : Int32) (t_s : Nat → Int32) (t_move : Nat → Int32) : va_W := [(a_t, ob 8 [.ref a_t_s, .ref a_t_image, .ref a_t_mind, .ref a_t_aside, .int t_isKept, .int t_work, .int t_kind, .ref a_t_text, .ref a_t_read, .int t_letters, .int t_at, .int t_fault, .ref a_t_comes, .ref a_t_begins, .ref a_t_latest, .int t_back, .int t_waits, .int t_miles, .int t_loads, .int t_bestRound, .int t_bestPlace, .int t_bestAdds, .int t_regret, .ref a_t_move, .ref a_t_sort, .ref a_t_items, .ref a_t_cell, .ref a_t_carried, .int t_z]), (a_t_s, aI G 258 t_s), (a_t_move, aI G 5 t_move)]
theorem u_X8_doesBest_X8_swaps_217 {s : State} {args : Array Value} (hts : ∀ w ∈ WU, w.before args s = true) : CallW rm_X8_doesBest s args RX8 RX8 217 yX8_swaps cX8_swaps 7 none (kw_X8_swaps :: WU) rm_X8_swaps 0 0 2 := cwV 2 hts (gV qm_8_217 qi_X8_swaps ql_X8_swaps qn_8 qc_X8_swaps) rfl rfl rfl (by decide +kernel) ⟨Nat.le_of_ble_eq_true rfl, Nat.le_of_ble_eq_true rfl⟩
theorem u_X8_doesBest_X8_roundOf_157 {s : State} {args : Array Value} (hts : ∀ w ∈ WU, w.before args s = true) : CallW rm_X8_doesBest s args RX8 RX8 157 yX8_roundOf cX8_roundOf 3 (some .int) (kw_X8_roundOf :: WU) rm_X8_roundOf 0 0 1 := cwV 1 hts (gV qm_8_157 qi_X8_roundOf ql_X8_roundOf qn_8 qc_X8_roundOf) rfl rfl rfl (by decide +kernel) ⟨Nat.le_of_ble_eq_true rfl, Nat.le_of_ble_eq_true rfl⟩
theorem u_X8_doesBest_X8_placeIn_66 {s : State} {args : Array Value} (hts : ∀ w ∈ WU, w.before args s = true) : CallW rm_X8_doesBest s args RX8 RX8 66 yX8_placeIn cX8_placeIn 4 (some .int) (kw_X8_placeIn :: WU) rm_X8_placeIn 0 0 2 := cwV 2 hts (gV qm_8_66 qi_X8_placeIn ql_X8_placeIn qn_8 qc_X8_placeIn) rfl rfl rfl (by decide +kernel) ⟨Nat.le_of_ble_eq_true rfl, Nat.le_of_ble_eq_true rfl⟩
theorem u_X8_doesBest_X8_removes_170 {s : State} {args : Array Value} (hts : ∀ w ∈ WU, w.before args s = true) : CallW rm_X8_doesBest s args RX8 RX8 170 yX8_removes cX8_removes 5 none (kw_X8_removes :: WU) rm_X8_removes 0 0 2 := cwV 2 hts (gV qm_8_170 qi_X8_removes ql_X8_removes qn_8 qc_X8_removes) rfl rfl rfl (by decide +kernel) ⟨Nat.le_of_ble_eq_true rfl, Nat.le_of_ble_eq_true rfl⟩
theorem u_X8_doesBest_X8_inserts_165 {s : State} {args : Array Value} (hts : ∀ w ∈ WU, w.before args s = true) : CallW rm_X8_doesBest s args RX8 RX8 165 yX8_inserts cX8_inserts 6 none (kw_X8_inserts :: WU) rm_X8_inserts 0 0 3 := cwV 3 hts (gV qm_8_165 qi_X8_inserts ql_X8_inserts qn_8 qc_X8_inserts) rfl rfl rfl (by decide +kernel) ⟨Nat.le_of_ble_eq_true rfl, Nat.le_of_ble_eq_true rfl⟩
theorem u_X8_doesBest_X8_reverses_214 {s : State} {args : Array Value} (hts : ∀ w ∈ WU, w.before args s = true) : CallW rm_X8_doesBest s args RX8 RX8 214 yX8_reverses cX8_reverses 8 none (kw_X8_reverses :: WU) rm_X8_reverses 0 0 3 := cwV 3 hts (gV qm_8_214 qi_X8_reverses ql_X8_reverses qn_8 qc_X8_reverses) rfl rfl rfl (by decide +kernel) ⟨Nat.le_of_ble_eq_true rfl, Nat.le_of_ble_eq_true rfl⟩
section
variable {p : Program} {l : Launch} {e : Env} {s : State} {m : MethodId} {args : Array Value} {below : List Frame} {meth : Method} {c : Code} {A : Nat → Prop} {G : GE} {a_t a_t_s a_t_image a_t_mind a_t_aside a_t_text a_t_read a_t_comes a_t_begins a_t_latest a_t_move a_t_sort a_t_items a_t_cell a_t_carried : Nat} {z_t_s : Nat → Int32}
set_option maxRecDepth 100000 in
set_option maxHeartbeats 4000000 in
theorem c_X8_doesBest (l : Launch) (G : GE) (a_t a_t_s a_t_image a_t_mind a_t_aside a_t_text a_t_read a_t_comes a_t_begins a_t_latest a_t_move a_t_sort a_t_items a_t_cell a_t_carried : Nat) (t_isKept : Int32) (t_work : Int32) (t_kind : Int32) (t_letters : Int32) (t_at : Int32) (t_fault : Int32) (t_back : Int32) (t_waits : Int32) (t_miles : Int32) (t_loads : Int32) (t_bestRound : Int32) (t_bestPlace : Int32) (t_bestAdds : Int32) (t_regret : Int32) (t_z : Int32) (t_s : Nat → Int32) (t_move : Nat → Int32) (z_t_s : Nat → Int32) (hf : f_X8_doesBest t_s t_move = some z_t_s) : CV l G yX8_doesBest kw_X8_doesBest rm_X8_doesBest [.ref a_t] (w_X8_doesBest G a_t a_t_s a_t_image a_t_mind a_t_aside a_t_text a_t_read a_t_comes a_t_begins a_t_latest a_t_move a_t_sort a_t_items a_t_cell a_t_carried t_isKept t_work t_kind t_letters t_at t_fault t_back t_waits t_miles t_loads t_bestRound t_bestPlace t_bestAdds t_regret t_z t_s t_move) (w_X8_doesBest G a_t a_t_s a_t_image a_t_mind a_t_aside a_t_text a_t_read a_t_comes a_t_begins a_t_latest a_t_move a_t_sort a_t_items a_t_cell a_t_carried t_isKept t_work t_kind t_letters t_at t_fault t_back t_waits t_miles t_loads t_bestRound t_bestPlace t_bestAdds t_regret t_z z_t_s t_move) := by
  refine en_V (cc := cX8_doesBest) (maxL := 2) (ret := none) (by decide +kernel) (Nat.le_of_ble_eq_true rfl) ?_
  intro p e s m args below meth c A ls C S hl
  have hl : lv_has ls 2 [(0, .ref a_t)] := hl
  have C : Cx p s m args meth c cX8_doesBest none 2 RX8 G A := C
  unfold f_X8_doesBest at hf
  have hx := C.1
  have hb := C.2.1
  have hown := C.2.2.2.2.1
  have hts := C.2.2.2.2.2.1
  have hN := C.2.2.2.2.2.2.2.2.2.2
  refine lv_aload_n (pc := 0) hx hb dX8_doesBest_0 rfl (lv_at hl 0 rfl) ?_
  refine x_get (pc := 1) (ci := 8) (T := TX8) (v := .ref a_t_move) C S 0 rfl rfl inlX8 23 (by decide) rfl qf_8_39 rfl dX8_doesBest_1 ?_
  refine lv_iconst (pc := 4) hx hb dX8_doesBest_4 ic_0 ?_
  refine x_iald (pc := 5) C S 2 rfl (vp_in_iff.mpr (by decide)) dX8_doesBest_5 ?_
  refine lv_iconst (pc := 6) hx hb dX8_doesBest_6 ic_1 ?_
  refine lv_icmp_ne (tgt := 35) (pc := 7) hx hb dX8_doesBest_7 (by decide) (fun c1 => ?_) (fun c1 => ?_)
  · have hf := ifn c1 hf
    refine lv_aload_n (pc := 35) hx hb dX8_doesBest_35 rfl (lv_at hl 0 rfl) ?_
    refine x_get (pc := 36) (ci := 8) (T := TX8) (v := .ref a_t_move) C S 0 rfl rfl inlX8 23 (by decide) rfl qf_8_39 rfl dX8_doesBest_36 ?_
    refine lv_iconst (pc := 39) hx hb dX8_doesBest_39 ic_0 ?_
    refine x_iald (pc := 40) C S 2 rfl (vp_in_iff.mpr (by decide)) dX8_doesBest_40 ?_
    refine lv_iconst (pc := 41) hx hb dX8_doesBest_41 ic_2 ?_
    refine lv_icmp_ne (tgt := 97) (pc := 42) hx hb dX8_doesBest_42 (by decide) (fun c2 => ?_) (fun c2 => ?_)
    · have hf := ifn c2 hf
      refine lv_aload_n (pc := 97) hx hb dX8_doesBest_97 rfl (lv_at hl 0 rfl) ?_
      refine lv_aload_n (pc := 98) hx hb dX8_doesBest_98 rfl (lv_at hl 0 rfl) ?_
      refine x_get (pc := 99) (ci := 8) (T := TX8) (v := .ref a_t_move) C S 0 rfl rfl inlX8 23 (by decide) rfl qf_8_39 rfl dX8_doesBest_99 ?_
      refine lv_iconst (pc := 102) hx hb dX8_doesBest_102 ic_2 ?_
      refine x_iald (pc := 103) C S 2 rfl (vp_in_iff.mpr (by decide)) dX8_doesBest_103 ?_
      refine lv_aload_n (pc := 104) hx hb dX8_doesBest_104 rfl (lv_at hl 0 rfl) ?_
      refine x_get (pc := 105) (ci := 8) (T := TX8) (v := .ref a_t_move) C S 0 rfl rfl inlX8 23 (by decide) rfl qf_8_39 rfl dX8_doesBest_105 ?_
      refine lv_iconst (pc := 108) hx hb dX8_doesBest_108 ic_3 ?_
      refine x_iald (pc := 109) C S 2 rfl (vp_in_iff.mpr (by decide)) dX8_doesBest_109 ?_
      obtain ⟨o3_t_s, hq3, hf⟩ := bd_e hf
      refine x_vV (pc := 110) (As := [.int (t_move (2 : Int32).toNatClampNeg), .int (t_move (3 : Int32).toNatClampNeg)]) (rest := []) (isC := [0, 1]) (ws' := (w_X8_doesBest G a_t a_t_s a_t_image a_t_mind a_t_aside a_t_text a_t_read a_t_comes a_t_begins a_t_latest a_t_move a_t_sort a_t_items a_t_cell a_t_carried t_isKept t_work t_kind t_letters t_at t_fault t_back t_waits t_miles t_loads t_bestRound t_bestPlace t_bestAdds t_regret t_z o3_t_s t_move)) C S (c_X8_swaps l G a_t a_t_s a_t_image a_t_mind a_t_aside a_t_text a_t_read a_t_comes a_t_begins a_t_latest a_t_move a_t_sort a_t_items a_t_cell a_t_carried t_isKept t_work t_kind t_letters t_at t_fault t_back t_waits t_miles t_loads t_bestRound t_bestPlace t_bestAdds t_regret t_z t_s (t_move (2 : Int32).toNatClampNeg) (t_move (3 : Int32).toNatClampNeg) o3_t_s hq3) (u_X8_doesBest_X8_swaps_217 hts) (ci := 8) rfl 0 rfl rfl (by decide +kernel) [some 0, some 1, none] (by decide +kernel) rfl rfl rfl hl.1 rfl (Nat.le_of_ble_eq_true rfl) dX8_doesBest_110 (fun H locs S => ?_)
      cases hf
      exact x_vret (pc := 113) C S dX8_doesBest_113
    · have hf := ifp c2 hf
      refine lv_aload_n (pc := 45) hx hb dX8_doesBest_45 rfl (lv_at hl 0 rfl) ?_
      refine lv_aload_n (pc := 46) hx hb dX8_doesBest_46 rfl (lv_at hl 0 rfl) ?_
      refine x_get (pc := 47) (ci := 8) (T := TX8) (v := .ref a_t_move) C S 0 rfl rfl inlX8 23 (by decide) rfl qf_8_39 rfl dX8_doesBest_47 ?_
      refine lv_iconst (pc := 50) hx hb dX8_doesBest_50 ic_2 ?_
      refine x_iald (pc := 51) C S 2 rfl (vp_in_iff.mpr (by decide)) dX8_doesBest_51 ?_
      obtain ⟨r4, hq4, hf⟩ := bd_e hf
      refine x_vI (pc := 52) (As := [.int (t_move (2 : Int32).toNatClampNeg)]) (rest := []) (isC := [0, 1]) (ws' := (w_X8_doesBest G a_t a_t_s a_t_image a_t_mind a_t_aside a_t_text a_t_read a_t_comes a_t_begins a_t_latest a_t_move a_t_sort a_t_items a_t_cell a_t_carried t_isKept t_work t_kind t_letters t_at t_fault t_back t_waits t_miles t_loads t_bestRound t_bestPlace t_bestAdds t_regret t_z t_s t_move)) C S (c_X8_roundOf l G a_t a_t_s a_t_image a_t_mind a_t_aside a_t_text a_t_read a_t_comes a_t_begins a_t_latest a_t_move a_t_sort a_t_items a_t_cell a_t_carried t_isKept t_work t_kind t_letters t_at t_fault t_back t_waits t_miles t_loads t_bestRound t_bestPlace t_bestAdds t_regret t_z t_s (t_move (2 : Int32).toNatClampNeg) r4 hq4) (u_X8_doesBest_X8_roundOf_157 hts) (ci := 8) rfl 0 rfl rfl (by decide +kernel) [some 0, some 1, none] (by decide +kernel) rfl rfl rfl hl.1 rfl (Nat.le_of_ble_eq_true rfl) dX8_doesBest_52 (fun H locs S => ?_)
      refine lv_istore_n (pc := 55) (lv' := [(1, .int r4), (0, .ref a_t)]) hx hb dX8_doesBest_55 rfl hl (by decide) rfl (fun ls hl => ?_)
      refine lv_aload_n (pc := 56) hx hb dX8_doesBest_56 rfl (lv_at hl 1 rfl) ?_
      refine lv_iload_n (pc := 57) hx hb dX8_doesBest_57 rfl (lv_at hl 0 rfl) ?_
      refine lv_aload_n (pc := 58) hx hb dX8_doesBest_58 rfl (lv_at hl 1 rfl) ?_
      refine lv_iload_n (pc := 59) hx hb dX8_doesBest_59 rfl (lv_at hl 0 rfl) ?_
      refine lv_aload_n (pc := 60) hx hb dX8_doesBest_60 rfl (lv_at hl 1 rfl) ?_
      refine x_get (pc := 61) (ci := 8) (T := TX8) (v := .ref a_t_move) C S 0 rfl rfl inlX8 23 (by decide) rfl qf_8_39 rfl dX8_doesBest_61 ?_
      refine lv_iconst (pc := 64) hx hb dX8_doesBest_64 ic_2 ?_
      refine x_iald (pc := 65) C S 2 rfl (vp_in_iff.mpr (by decide)) dX8_doesBest_65 ?_
      obtain ⟨r5, hq5, hf⟩ := bd_e hf
      refine x_vI (pc := 66) (As := [.int r4, .int (t_move (2 : Int32).toNatClampNeg)]) (rest := [.int r4, .ref a_t]) (isC := [0, 1]) (ws' := (w_X8_doesBest G a_t a_t_s a_t_image a_t_mind a_t_aside a_t_text a_t_read a_t_comes a_t_begins a_t_latest a_t_move a_t_sort a_t_items a_t_cell a_t_carried t_isKept t_work t_kind t_letters t_at t_fault t_back t_waits t_miles t_loads t_bestRound t_bestPlace t_bestAdds t_regret t_z t_s t_move)) C S (c_X8_placeIn l G a_t a_t_s a_t_image a_t_mind a_t_aside a_t_text a_t_read a_t_comes a_t_begins a_t_latest a_t_move a_t_sort a_t_items a_t_cell a_t_carried t_isKept t_work t_kind t_letters t_at t_fault t_back t_waits t_miles t_loads t_bestRound t_bestPlace t_bestAdds t_regret t_z t_s r4 (t_move (2 : Int32).toNatClampNeg) r5 hq5) (u_X8_doesBest_X8_placeIn_66 hts) (ci := 8) rfl 0 rfl rfl (by decide +kernel) [some 0, some 1, none] (by decide +kernel) rfl rfl rfl hl.1 rfl (Nat.le_of_ble_eq_true rfl) dX8_doesBest_66 (fun H locs S => ?_)
      obtain ⟨o6_t_s, hq6, hf⟩ := bd_e hf
      refine x_vV (pc := 69) (As := [.int r4, .int r5]) (rest := []) (isC := [0, 1]) (ws' := (w_X8_doesBest G a_t a_t_s a_t_image a_t_mind a_t_aside a_t_text a_t_read a_t_comes a_t_begins a_t_latest a_t_move a_t_sort a_t_items a_t_cell a_t_carried t_isKept t_work t_kind t_letters t_at t_fault t_back t_waits t_miles t_loads t_bestRound t_bestPlace t_bestAdds t_regret t_z o6_t_s t_move)) C S (c_X8_removes l G a_t a_t_s a_t_image a_t_mind a_t_aside a_t_text a_t_read a_t_comes a_t_begins a_t_latest a_t_move a_t_sort a_t_items a_t_cell a_t_carried t_isKept t_work t_kind t_letters t_at t_fault t_back t_waits t_miles t_loads t_bestRound t_bestPlace t_bestAdds t_regret t_z t_s r4 r5 o6_t_s hq6) (u_X8_doesBest_X8_removes_170 hts) (ci := 8) rfl 0 rfl rfl (by decide +kernel) [some 0, some 1, none] (by decide +kernel) rfl rfl rfl hl.1 rfl (Nat.le_of_ble_eq_true rfl) dX8_doesBest_69 (fun H locs S => ?_)
      refine lv_aload_n (pc := 72) hx hb dX8_doesBest_72 rfl (lv_at hl 1 rfl) ?_
      refine lv_aload_n (pc := 73) hx hb dX8_doesBest_73 rfl (lv_at hl 1 rfl) ?_
      refine x_get (pc := 74) (ci := 8) (T := TX8) (v := .ref a_t_move) C S 0 rfl rfl inlX8 23 (by decide) rfl qf_8_39 rfl dX8_doesBest_74 ?_
      refine lv_iconst (pc := 77) hx hb dX8_doesBest_77 ic_3 ?_
      refine x_iald (pc := 78) C S 2 rfl (vp_in_iff.mpr (by decide)) dX8_doesBest_78 ?_
      refine lv_aload_n (pc := 79) hx hb dX8_doesBest_79 rfl (lv_at hl 1 rfl) ?_
      refine x_get (pc := 80) (ci := 8) (T := TX8) (v := .ref a_t_move) C S 0 rfl rfl inlX8 23 (by decide) rfl qf_8_39 rfl dX8_doesBest_80 ?_
      refine lv_iconst (pc := 83) hx hb dX8_doesBest_83 ic_4 ?_
      refine x_iald (pc := 84) C S 2 rfl (vp_in_iff.mpr (by decide)) dX8_doesBest_84 ?_
      refine lv_aload_n (pc := 85) hx hb dX8_doesBest_85 rfl (lv_at hl 1 rfl) ?_
      refine x_get (pc := 86) (ci := 8) (T := TX8) (v := .ref a_t_move) C S 0 rfl rfl inlX8 23 (by decide) rfl qf_8_39 rfl dX8_doesBest_86 ?_
      refine lv_iconst (pc := 89) hx hb dX8_doesBest_89 ic_2 ?_
      refine x_iald (pc := 90) C S 2 rfl (vp_in_iff.mpr (by decide)) dX8_doesBest_90 ?_
      obtain ⟨o7_t_s, hq7, hf⟩ := bd_e hf
      refine x_vV (pc := 91) (As := [.int (t_move (3 : Int32).toNatClampNeg), .int (t_move (4 : Int32).toNatClampNeg), .int (t_move (2 : Int32).toNatClampNeg)]) (rest := []) (isC := [0, 1]) (ws' := (w_X8_doesBest G a_t a_t_s a_t_image a_t_mind a_t_aside a_t_text a_t_read a_t_comes a_t_begins a_t_latest a_t_move a_t_sort a_t_items a_t_cell a_t_carried t_isKept t_work t_kind t_letters t_at t_fault t_back t_waits t_miles t_loads t_bestRound t_bestPlace t_bestAdds t_regret t_z o7_t_s t_move)) C S (c_X8_inserts l G a_t a_t_s a_t_image a_t_mind a_t_aside a_t_text a_t_read a_t_comes a_t_begins a_t_latest a_t_move a_t_sort a_t_items a_t_cell a_t_carried t_isKept t_work t_kind t_letters t_at t_fault t_back t_waits t_miles t_loads t_bestRound t_bestPlace t_bestAdds t_regret t_z o6_t_s (t_move (3 : Int32).toNatClampNeg) (t_move (4 : Int32).toNatClampNeg) (t_move (2 : Int32).toNatClampNeg) o7_t_s hq7) (u_X8_doesBest_X8_inserts_165 hts) (ci := 8) rfl 0 rfl rfl (by decide +kernel) [some 0, some 1, none] (by decide +kernel) rfl rfl rfl hl.1 rfl (Nat.le_of_ble_eq_true rfl) dX8_doesBest_91 (fun H locs S => ?_)
      refine lv_goto (tgt := 113) (pc := 94) hx hb dX8_doesBest_94 (by decide) ?_
      cases hf
      exact x_vret (pc := 113) C S dX8_doesBest_113
  · have hf := ifp c1 hf
    refine lv_aload_n (pc := 10) hx hb dX8_doesBest_10 rfl (lv_at hl 0 rfl) ?_
    refine lv_aload_n (pc := 11) hx hb dX8_doesBest_11 rfl (lv_at hl 0 rfl) ?_
    refine x_get (pc := 12) (ci := 8) (T := TX8) (v := .ref a_t_move) C S 0 rfl rfl inlX8 23 (by decide) rfl qf_8_39 rfl dX8_doesBest_12 ?_
    refine lv_iconst (pc := 15) hx hb dX8_doesBest_15 ic_2 ?_
    refine x_iald (pc := 16) C S 2 rfl (vp_in_iff.mpr (by decide)) dX8_doesBest_16 ?_
    refine lv_aload_n (pc := 17) hx hb dX8_doesBest_17 rfl (lv_at hl 0 rfl) ?_
    refine x_get (pc := 18) (ci := 8) (T := TX8) (v := .ref a_t_move) C S 0 rfl rfl inlX8 23 (by decide) rfl qf_8_39 rfl dX8_doesBest_18 ?_
    refine lv_iconst (pc := 21) hx hb dX8_doesBest_21 ic_3 ?_
    refine x_iald (pc := 22) C S 2 rfl (vp_in_iff.mpr (by decide)) dX8_doesBest_22 ?_
    refine lv_aload_n (pc := 23) hx hb dX8_doesBest_23 rfl (lv_at hl 0 rfl) ?_
    refine x_get (pc := 24) (ci := 8) (T := TX8) (v := .ref a_t_move) C S 0 rfl rfl inlX8 23 (by decide) rfl qf_8_39 rfl dX8_doesBest_24 ?_
    refine lv_iconst (pc := 27) hx hb dX8_doesBest_27 ic_4 ?_
    refine x_iald (pc := 28) C S 2 rfl (vp_in_iff.mpr (by decide)) dX8_doesBest_28 ?_
    obtain ⟨o8_t_s, hq8, hf⟩ := bd_e hf
    refine x_vV (pc := 29) (As := [.int (t_move (2 : Int32).toNatClampNeg), .int (t_move (3 : Int32).toNatClampNeg), .int (t_move (4 : Int32).toNatClampNeg)]) (rest := []) (isC := [0, 1]) (ws' := (w_X8_doesBest G a_t a_t_s a_t_image a_t_mind a_t_aside a_t_text a_t_read a_t_comes a_t_begins a_t_latest a_t_move a_t_sort a_t_items a_t_cell a_t_carried t_isKept t_work t_kind t_letters t_at t_fault t_back t_waits t_miles t_loads t_bestRound t_bestPlace t_bestAdds t_regret t_z o8_t_s t_move)) C S (c_X8_reverses l G a_t a_t_s a_t_image a_t_mind a_t_aside a_t_text a_t_read a_t_comes a_t_begins a_t_latest a_t_move a_t_sort a_t_items a_t_cell a_t_carried t_isKept t_work t_kind t_letters t_at t_fault t_back t_waits t_miles t_loads t_bestRound t_bestPlace t_bestAdds t_regret t_z t_s (t_move (2 : Int32).toNatClampNeg) (t_move (3 : Int32).toNatClampNeg) (t_move (4 : Int32).toNatClampNeg) o8_t_s hq8) (u_X8_doesBest_X8_reverses_214 hts) (ci := 8) rfl 0 rfl rfl (by decide +kernel) [some 0, some 1, none] (by decide +kernel) rfl rfl rfl hl.1 rfl (Nat.le_of_ble_eq_true rfl) dX8_doesBest_29 (fun H locs S => ?_)
    refine lv_goto (tgt := 113) (pc := 32) hx hb dX8_doesBest_32 (by decide) ?_
    cases hf
    exact x_vret (pc := 113) C S dX8_doesBest_113
end

abbrev rm_X8_drawn : Room := { frames := 10, cells := 0, slots := 0, locals := 249 }
abbrev kw_X8_drawn : Cond := .code yX8_drawn cX8_drawn 3 (some .int)
abbrev w_X8_drawn (G : GE) (a_t a_t_s a_t_image a_t_mind a_t_aside a_t_text a_t_read a_t_comes a_t_begins a_t_latest a_t_move a_t_sort a_t_items a_t_cell a_t_carried : Nat) (t_isKept : Int32) (t_work : Int32) (t_kind : Int32) (t_letters : Int32) (t_at : Int32) (t_fault : Int32) (t_back : Int32) (t_waits : Int32) (t_miles : Int32) (t_loads : Int32) (t_bestRound : Int32) (t_bestPlace : Int32) (t_bestAdds : Int32) (t_regret : Int32) (t_z : Int32) (t_s : Nat → Int32) (t_mind : Nat → Int32) (t_comes : Nat → Int32) (t_begins : Nat → Int32) : va_W := [(a_t, ob 8 [.ref a_t_s, .ref a_t_image, .ref a_t_mind, .ref a_t_aside, .int t_isKept, .int t_work, .int t_kind, .ref a_t_text, .ref a_t_read, .int t_letters, .int t_at, .int t_fault, .ref a_t_comes, .ref a_t_begins, .ref a_t_latest, .int t_back, .int t_waits, .int t_miles, .int t_loads, .int t_bestRound, .int t_bestPlace, .int t_bestAdds, .int t_regret, .ref a_t_move, .ref a_t_sort, .ref a_t_items, .ref a_t_cell, .ref a_t_carried, .int t_z]), (a_t_s, aI G 258 t_s), (a_t_mind, aI G 258 t_mind), (a_t_comes, aI G 16 t_comes), (a_t_begins, aI G 16 t_begins)]
theorem u_X8_drawn_X8_isIn_55 {s : State} {args : Array Value} (hts : ∀ w ∈ WU, w.before args s = true) : CallB rm_X8_drawn s args RX8 55 yX8_isIn cX8_isIn 3 (some .boolean) (kw_X8_isIn :: WU) rm_X8_isIn 0 0 3 ∧ (Cond.static yX8_isIn).before args s = true := va_cwS 3 hts (gS qm_8_55 qs_X8_isIn qn_8 qc_X8_isIn) rfl rfl rfl (by decide +kernel) ⟨Nat.le_of_ble_eq_true rfl, Nat.le_of_ble_eq_true rfl⟩
theorem u_X8_drawn_X8_works_208 {s : State} {args : Array Value} (hts : ∀ w ∈ WU, w.before args s = true) : CallW rm_X8_drawn s args RX8 RX8 208 yX8_works cX8_works 2 (some .boolean) (kw_X8_works :: WU) rm_X8_works 0 0 1 := cwV 1 hts (gV qm_8_208 qi_X8_works ql_X8_works qn_8 qc_X8_works) rfl rfl rfl (by decide +kernel) ⟨Nat.le_of_ble_eq_true rfl, Nat.le_of_ble_eq_true rfl⟩
theorem u_X8_drawn_X8_drawnBy_276 {s : State} {args : Array Value} (hts : ∀ w ∈ WU, w.before args s = true) : CallW rm_X8_drawn s args RX8 RX8 276 yX8_drawnBy cX8_drawnBy 9 (some .int) (kw_X8_drawnBy :: WU) rm_X8_drawnBy 0 0 2 := cwV 2 hts (gV qm_8_276 qi_X8_drawnBy ql_X8_drawnBy qn_8 qc_X8_drawnBy) rfl rfl rfl (by decide +kernel) ⟨Nat.le_of_ble_eq_true rfl, Nat.le_of_ble_eq_true rfl⟩
section
variable {p : Program} {l : Launch} {e : Env} {s : State} {m : MethodId} {args : Array Value} {below : List Frame} {meth : Method} {c : Code} {A : Nat → Prop} {G : GE} {a_t a_t_s a_t_image a_t_mind a_t_aside a_t_text a_t_read a_t_comes a_t_begins a_t_latest a_t_move a_t_sort a_t_items a_t_cell a_t_carried : Nat} {r : Int32} {z_t_s : Nat → Int32} {z_t_mind : Nat → Int32} {z_t_work : Int32} {z_t_comes : Nat → Int32} {z_t_begins : Nat → Int32} {z_t_back : Int32} {z_t_waits : Int32} {z_t_loads : Int32} {z_t_bestRound : Int32} {z_t_bestPlace : Int32} {z_t_bestAdds : Int32} {z_t_regret : Int32} {z_t_z : Int32}
set_option maxRecDepth 100000 in
set_option maxHeartbeats 4000000 in
theorem c_X8_drawn (l : Launch) (G : GE) (a_t a_t_s a_t_image a_t_mind a_t_aside a_t_text a_t_read a_t_comes a_t_begins a_t_latest a_t_move a_t_sort a_t_items a_t_cell a_t_carried : Nat) (t_isKept : Int32) (t_work : Int32) (t_kind : Int32) (t_letters : Int32) (t_at : Int32) (t_fault : Int32) (t_back : Int32) (t_waits : Int32) (t_miles : Int32) (t_loads : Int32) (t_bestRound : Int32) (t_bestPlace : Int32) (t_bestAdds : Int32) (t_regret : Int32) (t_z : Int32) (t_s : Nat → Int32) (t_mind : Nat → Int32) (t_comes : Nat → Int32) (t_begins : Nat → Int32) (x1 : Int32) (x2 : Int32) (r : Int32) (z_t_s : Nat → Int32) (z_t_mind : Nat → Int32) (z_t_work : Int32) (z_t_comes : Nat → Int32) (z_t_begins : Nat → Int32) (z_t_back : Int32) (z_t_waits : Int32) (z_t_loads : Int32) (z_t_bestRound : Int32) (z_t_bestPlace : Int32) (z_t_bestAdds : Int32) (z_t_regret : Int32) (z_t_z : Int32) (hf : f_X8_drawn t_s t_mind t_work t_comes t_begins t_back t_waits t_loads t_bestRound t_bestPlace t_bestAdds t_regret t_z x1 x2 = some (r, z_t_s, z_t_mind, z_t_work, z_t_comes, z_t_begins, z_t_back, z_t_waits, z_t_loads, z_t_bestRound, z_t_bestPlace, z_t_bestAdds, z_t_regret, z_t_z)) : CI l G yX8_drawn kw_X8_drawn rm_X8_drawn [.ref a_t, .int x1, .int x2] (w_X8_drawn G a_t a_t_s a_t_image a_t_mind a_t_aside a_t_text a_t_read a_t_comes a_t_begins a_t_latest a_t_move a_t_sort a_t_items a_t_cell a_t_carried t_isKept t_work t_kind t_letters t_at t_fault t_back t_waits t_miles t_loads t_bestRound t_bestPlace t_bestAdds t_regret t_z t_s t_mind t_comes t_begins) r (w_X8_drawn G a_t a_t_s a_t_image a_t_mind a_t_aside a_t_text a_t_read a_t_comes a_t_begins a_t_latest a_t_move a_t_sort a_t_items a_t_cell a_t_carried t_isKept z_t_work t_kind t_letters t_at t_fault z_t_back z_t_waits t_miles z_t_loads z_t_bestRound z_t_bestPlace z_t_bestAdds z_t_regret z_t_z z_t_s z_t_mind z_t_comes z_t_begins) := by
  refine en_I (cc := cX8_drawn) (maxL := 3) (ret := (some .int)) (by decide +kernel) (Nat.le_of_ble_eq_true rfl) ?_
  intro p e s m args below meth c A ls C S hl
  have hl : lv_has ls 3 [(0, .ref a_t), (1, .int x1), (2, .int x2)] := hl
  have C : Cx p s m args meth c cX8_drawn (some .int) 3 RX8 G A := C
  unfold f_X8_drawn at hf
  have hx := C.1
  have hb := C.2.1
  have hown := C.2.2.2.2.1
  have hts := C.2.2.2.2.2.1
  have hN := C.2.2.2.2.2.2.2.2.2.2
  refine lv_iload_n (pc := 0) hx hb dX8_drawn_0 rfl (lv_at hl 2 rfl) ?_
  refine lv_iconst (pc := 1) hx hb dX8_drawn_1 ic_0 ?_
  refine lv_bipush (pc := 2) hx hb dX8_drawn_2 bc_8 ?_
  obtain ⟨r1, hq1, hf⟩ := bd_e hf
  refine x_sI (pc := 4) (As := [.int x2, .int (0 : Int32), .int (8 : Int32)]) (rest := []) (isC := []) (ws' := (w_X8_drawn G a_t a_t_s a_t_image a_t_mind a_t_aside a_t_text a_t_read a_t_comes a_t_begins a_t_latest a_t_move a_t_sort a_t_items a_t_cell a_t_carried t_isKept t_work t_kind t_letters t_at t_fault t_back t_waits t_miles t_loads t_bestRound t_bestPlace t_bestAdds t_regret t_z t_s t_mind t_comes t_begins)) C S (c_X8_isIn l G x2 (0 : Int32) (8 : Int32) r1 hq1) (u_X8_drawn_X8_isIn_55 hts) rfl (by decide +kernel) [none, none, none, none, none] (by decide +kernel) rfl rfl rfl hl.1 rfl (Nat.le_of_ble_eq_true rfl) dX8_drawn_4 (fun H locs S => ?_)
  refine lv_if_ne (tgt := 13) (pc := 7) hx hb dX8_drawn_7 (by decide) (fun c2 => ?_) (fun c2 => ?_)
  · have hf := ifn c2 hf
    refine lv_aload_n (pc := 13) hx hb dX8_drawn_13 rfl (lv_at hl 0 rfl) ?_
    refine lv_iconst (pc := 14) hx hb dX8_drawn_14 ic_1 ?_
    obtain ⟨⟨r3, o3_t_work⟩, hq3, hf⟩ := bd_e hf
    refine x_vI (pc := 15) (As := [.int (1 : Int32)]) (rest := []) (isC := [0]) (ws' := (w_X8_drawn G a_t a_t_s a_t_image a_t_mind a_t_aside a_t_text a_t_read a_t_comes a_t_begins a_t_latest a_t_move a_t_sort a_t_items a_t_cell a_t_carried t_isKept o3_t_work t_kind t_letters t_at t_fault t_back t_waits t_miles t_loads t_bestRound t_bestPlace t_bestAdds t_regret t_z t_s t_mind t_comes t_begins)) C S (c_X8_works l G a_t a_t_s a_t_image a_t_mind a_t_aside a_t_text a_t_read a_t_comes a_t_begins a_t_latest a_t_move a_t_sort a_t_items a_t_cell a_t_carried t_isKept t_work t_kind t_letters t_at t_fault t_back t_waits t_miles t_loads t_bestRound t_bestPlace t_bestAdds t_regret t_z (1 : Int32) r3 o3_t_work hq3) (u_X8_drawn_X8_works_208 hts) (ci := 8) rfl 0 rfl rfl (by decide +kernel) [some 0, none, none, none, none] (by decide +kernel) rfl rfl rfl hl.1 rfl (Nat.le_of_ble_eq_true rfl) dX8_drawn_15 (fun H locs S => ?_)
    refine lv_if_eq (tgt := 30) (pc := 18) hx hb dX8_drawn_18 (by decide) (fun c4 => ?_) (fun c4 => ?_)
    · have hf := ifp c4 hf
      refine lv_bipush (pc := 30) hx hb dX8_drawn_30 bc_m4 ?_
      cases hf
      exact x_iret (pc := 32) C S dX8_drawn_32
    · have hf := ifn c4 hf
      refine lv_aload_n (pc := 21) hx hb dX8_drawn_21 rfl (lv_at hl 0 rfl) ?_
      refine lv_iload_n (pc := 22) hx hb dX8_drawn_22 rfl (lv_at hl 1 rfl) ?_
      refine lv_iload_n (pc := 23) hx hb dX8_drawn_23 rfl (lv_at hl 2 rfl) ?_
      obtain ⟨⟨r5, o5_t_s, o5_t_mind, o5_t_comes, o5_t_begins, o5_t_back, o5_t_waits, o5_t_loads, o5_t_bestRound, o5_t_bestPlace, o5_t_bestAdds, o5_t_regret, o5_t_z⟩, hq5, hf⟩ := bd_e hf
      refine x_vI (pc := 24) (As := [.int x1, .int x2]) (rest := []) (isC := [0, 1, 2, 3, 4]) (ws' := (w_X8_drawn G a_t a_t_s a_t_image a_t_mind a_t_aside a_t_text a_t_read a_t_comes a_t_begins a_t_latest a_t_move a_t_sort a_t_items a_t_cell a_t_carried t_isKept o3_t_work t_kind t_letters t_at t_fault o5_t_back o5_t_waits t_miles o5_t_loads o5_t_bestRound o5_t_bestPlace o5_t_bestAdds o5_t_regret o5_t_z o5_t_s o5_t_mind o5_t_comes o5_t_begins)) C S (c_X8_drawnBy l G a_t a_t_s a_t_image a_t_mind a_t_aside a_t_text a_t_read a_t_comes a_t_begins a_t_latest a_t_move a_t_sort a_t_items a_t_cell a_t_carried t_isKept o3_t_work t_kind t_letters t_at t_fault t_back t_waits t_miles t_loads t_bestRound t_bestPlace t_bestAdds t_regret t_z t_s t_mind t_comes t_begins x1 x2 r5 o5_t_s o5_t_mind o5_t_comes o5_t_begins o5_t_back o5_t_waits o5_t_loads o5_t_bestRound o5_t_bestPlace o5_t_bestAdds o5_t_regret o5_t_z hq5) (u_X8_drawn_X8_drawnBy_276 hts) (ci := 8) rfl 0 rfl rfl (by decide +kernel) [some 0, some 1, some 2, some 3, some 4] (by decide +kernel) rfl rfl rfl hl.1 rfl (Nat.le_of_ble_eq_true rfl) dX8_drawn_24 (fun H locs S => ?_)
      refine lv_goto (tgt := 32) (pc := 27) hx hb dX8_drawn_27 (by decide) ?_
      cases hf
      exact x_iret (pc := 32) C S dX8_drawn_32
  · have hf := ifp c2 hf
    refine lv_bipush (pc := 10) hx hb dX8_drawn_10 bc_m2 ?_
    cases hf
    exact x_iret (pc := 12) C S dX8_drawn_12
end

abbrev rm_X8_isDueAhead : Room := { frames := 1, cells := 0, slots := 0, locals := 22 }
abbrev kw_X8_isDueAhead : Cond := .code yX8_isDueAhead cX8_isDueAhead 4 (some .boolean)
abbrev w_X8_isDueAhead (G : GE) (a_t a_t_s a_t_image a_t_mind a_t_aside a_t_text a_t_read a_t_comes a_t_begins a_t_latest a_t_move a_t_sort a_t_items a_t_cell a_t_carried : Nat) (t_isKept : Int32) (t_work : Int32) (t_kind : Int32) (t_letters : Int32) (t_at : Int32) (t_fault : Int32) (t_back : Int32) (t_waits : Int32) (t_miles : Int32) (t_loads : Int32) (t_bestRound : Int32) (t_bestPlace : Int32) (t_bestAdds : Int32) (t_regret : Int32) (t_z : Int32) (t_s : Nat → Int32) : va_W := [(a_t, ob 8 [.ref a_t_s, .ref a_t_image, .ref a_t_mind, .ref a_t_aside, .int t_isKept, .int t_work, .int t_kind, .ref a_t_text, .ref a_t_read, .int t_letters, .int t_at, .int t_fault, .ref a_t_comes, .ref a_t_begins, .ref a_t_latest, .int t_back, .int t_waits, .int t_miles, .int t_loads, .int t_bestRound, .int t_bestPlace, .int t_bestAdds, .int t_regret, .ref a_t_move, .ref a_t_sort, .ref a_t_items, .ref a_t_cell, .ref a_t_carried, .int t_z]), (a_t_s, aI G 258 t_s)]
theorem u_X8_isDueAhead_X8_stopAt_78 {s : State} {args : Array Value} (hts : ∀ w ∈ WU, w.before args s = true) : CallW rm_X8_isDueAhead s args RX8 RX8 78 yX8_stopAt cX8_stopAt 3 (some .int) (kw_X8_stopAt :: WU) rm_X8_stopAt 0 0 2 := cwV 2 hts (gV qm_8_78 qi_X8_stopAt ql_X8_stopAt qn_8 qc_X8_stopAt) rfl rfl rfl (by decide +kernel) ⟨Nat.le_of_ble_eq_true rfl, Nat.le_of_ble_eq_true rfl⟩
section
variable {p : Program} {l : Launch} {e : Env} {s : State} {m : MethodId} {args : Array Value} {below : List Frame} {meth : Method} {c : Code} {A : Nat → Prop} {G : GE} {a_t a_t_s a_t_image a_t_mind a_t_aside a_t_text a_t_read a_t_comes a_t_begins a_t_latest a_t_move a_t_sort a_t_items a_t_cell a_t_carried : Nat} {r : Int32}
set_option maxRecDepth 100000 in
set_option maxHeartbeats 4000000 in
theorem k_X8_isDueAhead_2 (C : Cx p s m args meth c cX8_isDueAhead (some .boolean) 4 RX8 G A) (t_isKept : Int32) (t_work : Int32) (t_kind : Int32) (t_letters : Int32) (t_at : Int32) (t_fault : Int32) (t_back : Int32) (t_waits : Int32) (t_miles : Int32) (t_loads : Int32) (t_bestRound : Int32) (t_bestPlace : Int32) (t_bestAdds : Int32) (t_regret : Int32) (t_z : Int32) (t_s : Nat → Int32) (x1 : Int32) (x2 : Int32) (x3 : Int32) (k2 : Int32 → Option (Int32)) (hk2 : ∀ {H : Heap} {locs : List Loc} {ls : Array Slot} (x3' : Int32), k2 x3' = some r → St G A s.heap H locs (w_X8_isDueAhead G a_t a_t_s a_t_image a_t_mind a_t_aside a_t_text a_t_read a_t_comes a_t_begins a_t_latest a_t_move a_t_sort a_t_items a_t_cell a_t_carried t_isKept t_work t_kind t_letters t_at t_fault t_back t_waits t_miles t_loads t_bestRound t_bestPlace t_bestAdds t_regret t_z t_s) → lv_has ls 4 [(0, .ref a_t), (1, .int x1), (2, .int x2), (3, .int x3')] → W p l e rm_X8_isDueAhead s m args below meth c H locs 0 0 (QI G below args s A r (w_X8_isDueAhead G a_t a_t_s a_t_image a_t_mind a_t_aside a_t_text a_t_read a_t_comes a_t_begins a_t_latest a_t_move a_t_sort a_t_items a_t_cell a_t_carried t_isKept t_work t_kind t_letters t_at t_fault t_back t_waits t_miles t_loads t_bestRound t_bestPlace t_bestAdds t_regret t_z t_s)) (F0 m 2 ls [])) {H : Heap} {locs : List Loc} {ls : Array Slot} (hf : b_X8_isDueAhead_2 x1 x2 t_s k2 x3 = some r) (S : St G A s.heap H locs (w_X8_isDueAhead G a_t a_t_s a_t_image a_t_mind a_t_aside a_t_text a_t_read a_t_comes a_t_begins a_t_latest a_t_move a_t_sort a_t_items a_t_cell a_t_carried t_isKept t_work t_kind t_letters t_at t_fault t_back t_waits t_miles t_loads t_bestRound t_bestPlace t_bestAdds t_regret t_z t_s)) (hl : lv_has ls 4 [(0, .ref a_t), (1, .int x1), (2, .int x2), (3, .int x3)]) : W p l e rm_X8_isDueAhead s m args below meth c H locs 0 0 (QI G below args s A r (w_X8_isDueAhead G a_t a_t_s a_t_image a_t_mind a_t_aside a_t_text a_t_read a_t_comes a_t_begins a_t_latest a_t_move a_t_sort a_t_items a_t_cell a_t_carried t_isKept t_work t_kind t_letters t_at t_fault t_back t_waits t_miles t_loads t_bestRound t_bestPlace t_bestAdds t_regret t_z t_s)) (F0 m 2 ls []) := by
  unfold b_X8_isDueAhead_2 at hf
  have hx := C.1
  have hb := C.2.1
  have hown := C.2.2.2.2.1
  have hts := C.2.2.2.2.2.1
  have hN := C.2.2.2.2.2.2.2.2.2.2
  refine lv_iload_n (pc := 2) hx hb dX8_isDueAhead_2 rfl (lv_at hl 3 rfl) ?_
  refine lv_iconst (pc := 3) hx hb dX8_isDueAhead_3 ic_3 ?_
  refine lv_icmp_lt (tgt := 49) (pc := 4) hx hb dX8_isDueAhead_4 (by decide) (fun c1 => ?_) (fun c1 => ?_)
  · have hf := ifp c1 hf
    refine lv_iload_n (pc := 49) hx hb dX8_isDueAhead_49 rfl (lv_at hl 1 rfl) ?_
    refine lv_iload_n (pc := 50) hx hb dX8_isDueAhead_50 rfl (lv_at hl 2 rfl) ?_
    refine lv_icmp_ge (tgt := 58) (pc := 51) hx hb dX8_isDueAhead_51 (by decide) (fun c2 => ?_) (fun c2 => ?_)
    · have hf := ifp c2 hf
      refine lv_iconst (pc := 58) hx hb dX8_isDueAhead_58 ic_0 ?_
      cases hf
      exact x_zret (pc := 59) (by decide) C S dX8_isDueAhead_59
    · have hf := ifn c2 hf
      refine lv_iconst (pc := 54) hx hb dX8_isDueAhead_54 ic_1 ?_
      refine lv_goto (tgt := 59) (pc := 55) hx hb dX8_isDueAhead_55 (by decide) ?_
      cases hf
      exact x_zret (pc := 59) (by decide) C S dX8_isDueAhead_59
  · have hf := ifn c1 hf
    refine lv_aload_n (pc := 7) hx hb dX8_isDueAhead_7 rfl (lv_at hl 0 rfl) ?_
    refine lv_iload_n (pc := 8) hx hb dX8_isDueAhead_8 rfl (lv_at hl 1 rfl) ?_
    refine lv_iload_n (pc := 9) hx hb dX8_isDueAhead_9 rfl (lv_at hl 3 rfl) ?_
    obtain ⟨r3, hq3, hf⟩ := bd_e hf
    refine x_vI (pc := 10) (As := [.int x1, .int x3]) (rest := []) (isC := [0, 1]) (ws' := (w_X8_isDueAhead G a_t a_t_s a_t_image a_t_mind a_t_aside a_t_text a_t_read a_t_comes a_t_begins a_t_latest a_t_move a_t_sort a_t_items a_t_cell a_t_carried t_isKept t_work t_kind t_letters t_at t_fault t_back t_waits t_miles t_loads t_bestRound t_bestPlace t_bestAdds t_regret t_z t_s)) C S (c_X8_stopAt l G a_t a_t_s a_t_image a_t_mind a_t_aside a_t_text a_t_read a_t_comes a_t_begins a_t_latest a_t_move a_t_sort a_t_items a_t_cell a_t_carried t_isKept t_work t_kind t_letters t_at t_fault t_back t_waits t_miles t_loads t_bestRound t_bestPlace t_bestAdds t_regret t_z t_s x1 x3 r3 hq3) (u_X8_isDueAhead_X8_stopAt_78 hts) (ci := 8) rfl 0 rfl rfl (by decide +kernel) [some 0, some 1] (by decide +kernel) rfl rfl rfl hl.1 rfl (Nat.le_of_ble_eq_true rfl) dX8_isDueAhead_10 (fun H locs S => ?_)
    refine lv_aload_n (pc := 13) hx hb dX8_isDueAhead_13 rfl (lv_at hl 0 rfl) ?_
    refine lv_iload_n (pc := 14) hx hb dX8_isDueAhead_14 rfl (lv_at hl 2 rfl) ?_
    refine lv_iload_n (pc := 15) hx hb dX8_isDueAhead_15 rfl (lv_at hl 3 rfl) ?_
    obtain ⟨r4, hq4, hf⟩ := bd_e hf
    refine x_vI (pc := 16) (As := [.int x2, .int x3]) (rest := [.int r3]) (isC := [0, 1]) (ws' := (w_X8_isDueAhead G a_t a_t_s a_t_image a_t_mind a_t_aside a_t_text a_t_read a_t_comes a_t_begins a_t_latest a_t_move a_t_sort a_t_items a_t_cell a_t_carried t_isKept t_work t_kind t_letters t_at t_fault t_back t_waits t_miles t_loads t_bestRound t_bestPlace t_bestAdds t_regret t_z t_s)) C S (c_X8_stopAt l G a_t a_t_s a_t_image a_t_mind a_t_aside a_t_text a_t_read a_t_comes a_t_begins a_t_latest a_t_move a_t_sort a_t_items a_t_cell a_t_carried t_isKept t_work t_kind t_letters t_at t_fault t_back t_waits t_miles t_loads t_bestRound t_bestPlace t_bestAdds t_regret t_z t_s x2 x3 r4 hq4) (u_X8_isDueAhead_X8_stopAt_78 hts) (ci := 8) rfl 0 rfl rfl (by decide +kernel) [some 0, some 1] (by decide +kernel) rfl rfl rfl hl.1 rfl (Nat.le_of_ble_eq_true rfl) dX8_isDueAhead_16 (fun H locs S => ?_)
    refine lv_icmp_eq (tgt := 43) (pc := 19) hx hb dX8_isDueAhead_19 (by decide) (fun c5 => ?_) (fun c5 => ?_)
    · have hf := ifp c5 hf
      refine lv_iinc (pc := 43) (v := (x3 + (-1 : Int32))) (lv' := [(3, .int (x3 + (-1 : Int32))), (0, .ref a_t), (1, .int x1), (2, .int x2)]) hx hb dX8_isDueAhead_43 hl (k := 3) rfl (congrArg (fun z => x3 + z) ic_m1) (by decide) rfl (fun ls hl => ?_)
      refine lv_goto (tgt := 2) (pc := 46) hx hb dX8_isDueAhead_46 (by decide) ?_
      exact hk2 ((x3 + (-1 : Int32)))  hf S (lv_sub hl [1, 2, 3, 0] rfl)
    · have hf := ifn c5 hf
      refine lv_aload_n (pc := 22) hx hb dX8_isDueAhead_22 rfl (lv_at hl 0 rfl) ?_
      refine lv_iload_n (pc := 23) hx hb dX8_isDueAhead_23 rfl (lv_at hl 1 rfl) ?_
      refine lv_iload_n (pc := 24) hx hb dX8_isDueAhead_24 rfl (lv_at hl 3 rfl) ?_
      obtain ⟨r6, hq6, hf⟩ := bd_e hf
      refine x_vI (pc := 25) (As := [.int x1, .int x3]) (rest := []) (isC := [0, 1]) (ws' := (w_X8_isDueAhead G a_t a_t_s a_t_image a_t_mind a_t_aside a_t_text a_t_read a_t_comes a_t_begins a_t_latest a_t_move a_t_sort a_t_items a_t_cell a_t_carried t_isKept t_work t_kind t_letters t_at t_fault t_back t_waits t_miles t_loads t_bestRound t_bestPlace t_bestAdds t_regret t_z t_s)) C S (c_X8_stopAt l G a_t a_t_s a_t_image a_t_mind a_t_aside a_t_text a_t_read a_t_comes a_t_begins a_t_latest a_t_move a_t_sort a_t_items a_t_cell a_t_carried t_isKept t_work t_kind t_letters t_at t_fault t_back t_waits t_miles t_loads t_bestRound t_bestPlace t_bestAdds t_regret t_z t_s x1 x3 r6 hq6) (u_X8_isDueAhead_X8_stopAt_78 hts) (ci := 8) rfl 0 rfl rfl (by decide +kernel) [some 0, some 1] (by decide +kernel) rfl rfl rfl hl.1 rfl (Nat.le_of_ble_eq_true rfl) dX8_isDueAhead_25 (fun H locs S => ?_)
      refine lv_aload_n (pc := 28) hx hb dX8_isDueAhead_28 rfl (lv_at hl 0 rfl) ?_
      refine lv_iload_n (pc := 29) hx hb dX8_isDueAhead_29 rfl (lv_at hl 2 rfl) ?_
      refine lv_iload_n (pc := 30) hx hb dX8_isDueAhead_30 rfl (lv_at hl 3 rfl) ?_
      obtain ⟨r7, hq7, hf⟩ := bd_e hf
      refine x_vI (pc := 31) (As := [.int x2, .int x3]) (rest := [.int r6]) (isC := [0, 1]) (ws' := (w_X8_isDueAhead G a_t a_t_s a_t_image a_t_mind a_t_aside a_t_text a_t_read a_t_comes a_t_begins a_t_latest a_t_move a_t_sort a_t_items a_t_cell a_t_carried t_isKept t_work t_kind t_letters t_at t_fault t_back t_waits t_miles t_loads t_bestRound t_bestPlace t_bestAdds t_regret t_z t_s)) C S (c_X8_stopAt l G a_t a_t_s a_t_image a_t_mind a_t_aside a_t_text a_t_read a_t_comes a_t_begins a_t_latest a_t_move a_t_sort a_t_items a_t_cell a_t_carried t_isKept t_work t_kind t_letters t_at t_fault t_back t_waits t_miles t_loads t_bestRound t_bestPlace t_bestAdds t_regret t_z t_s x2 x3 r7 hq7) (u_X8_isDueAhead_X8_stopAt_78 hts) (ci := 8) rfl 0 rfl rfl (by decide +kernel) [some 0, some 1] (by decide +kernel) rfl rfl rfl hl.1 rfl (Nat.le_of_ble_eq_true rfl) dX8_isDueAhead_31 (fun H locs S => ?_)
      refine lv_icmp_ge (tgt := 41) (pc := 34) hx hb dX8_isDueAhead_34 (by decide) (fun c8 => ?_) (fun c8 => ?_)
      · have hf := ifp c8 hf
        refine lv_iconst (pc := 41) hx hb dX8_isDueAhead_41 ic_0 ?_
        cases hf
        exact x_zret (pc := 42) (by decide) C S dX8_isDueAhead_42
      · have hf := ifn c8 hf
        refine lv_iconst (pc := 37) hx hb dX8_isDueAhead_37 ic_1 ?_
        refine lv_goto (tgt := 42) (pc := 38) hx hb dX8_isDueAhead_38 (by decide) ?_
        cases hf
        exact x_zret (pc := 42) (by decide) C S dX8_isDueAhead_42
set_option maxRecDepth 100000 in
set_option maxHeartbeats 4000000 in
theorem h_X8_isDueAhead_2 (C : Cx p s m args meth c cX8_isDueAhead (some .boolean) 4 RX8 G A) (t_isKept : Int32) (t_work : Int32) (t_kind : Int32) (t_letters : Int32) (t_at : Int32) (t_fault : Int32) (t_back : Int32) (t_waits : Int32) (t_miles : Int32) (t_loads : Int32) (t_bestRound : Int32) (t_bestPlace : Int32) (t_bestAdds : Int32) (t_regret : Int32) (t_z : Int32) (t_s : Nat → Int32) (x1 : Int32) (x2 : Int32) : ∀ (n : Nat) (x3 : Int32) {H : Heap} {locs : List Loc} {ls : Array Slot} (hf : lp (fun k x => b_X8_isDueAhead_2 x1 x2 t_s k x) n x3 = some r) (S : St G A s.heap H locs (w_X8_isDueAhead G a_t a_t_s a_t_image a_t_mind a_t_aside a_t_text a_t_read a_t_comes a_t_begins a_t_latest a_t_move a_t_sort a_t_items a_t_cell a_t_carried t_isKept t_work t_kind t_letters t_at t_fault t_back t_waits t_miles t_loads t_bestRound t_bestPlace t_bestAdds t_regret t_z t_s)) (hl : lv_has ls 4 [(0, .ref a_t), (1, .int x1), (2, .int x2), (3, .int x3)]), W p l e rm_X8_isDueAhead s m args below meth c H locs 0 0 (QI G below args s A r (w_X8_isDueAhead G a_t a_t_s a_t_image a_t_mind a_t_aside a_t_text a_t_read a_t_comes a_t_begins a_t_latest a_t_move a_t_sort a_t_items a_t_cell a_t_carried t_isKept t_work t_kind t_letters t_at t_fault t_back t_waits t_miles t_loads t_bestRound t_bestPlace t_bestAdds t_regret t_z t_s)) (F0 m 2 ls []) := by
  intro n
  induction n with
  | zero =>
    intro x3  H locs ls hf
    cases hf
  | succ n ih =>
    intro x3  H locs ls hf S hl
    have hf : b_X8_isDueAhead_2 x1 x2 t_s (lp (fun k x => b_X8_isDueAhead_2 x1 x2 t_s k x) n) x3 = some r := hf
    exact k_X8_isDueAhead_2 C t_isKept t_work t_kind t_letters t_at t_fault t_back t_waits t_miles t_loads t_bestRound t_bestPlace t_bestAdds t_regret t_z t_s x1 x2 x3  (lp (fun k x => b_X8_isDueAhead_2 x1 x2 t_s k x) n) (fun x3'  h S hl => ih x3'  h S hl) hf S hl
set_option maxRecDepth 100000 in
set_option maxHeartbeats 4000000 in
theorem c_X8_isDueAhead (l : Launch) (G : GE) (a_t a_t_s a_t_image a_t_mind a_t_aside a_t_text a_t_read a_t_comes a_t_begins a_t_latest a_t_move a_t_sort a_t_items a_t_cell a_t_carried : Nat) (t_isKept : Int32) (t_work : Int32) (t_kind : Int32) (t_letters : Int32) (t_at : Int32) (t_fault : Int32) (t_back : Int32) (t_waits : Int32) (t_miles : Int32) (t_loads : Int32) (t_bestRound : Int32) (t_bestPlace : Int32) (t_bestAdds : Int32) (t_regret : Int32) (t_z : Int32) (t_s : Nat → Int32) (x1 : Int32) (x2 : Int32) (r : Int32) (hf : f_X8_isDueAhead t_s x1 x2 = some r) : CI l G yX8_isDueAhead kw_X8_isDueAhead rm_X8_isDueAhead [.ref a_t, .int x1, .int x2] (w_X8_isDueAhead G a_t a_t_s a_t_image a_t_mind a_t_aside a_t_text a_t_read a_t_comes a_t_begins a_t_latest a_t_move a_t_sort a_t_items a_t_cell a_t_carried t_isKept t_work t_kind t_letters t_at t_fault t_back t_waits t_miles t_loads t_bestRound t_bestPlace t_bestAdds t_regret t_z t_s) r (w_X8_isDueAhead G a_t a_t_s a_t_image a_t_mind a_t_aside a_t_text a_t_read a_t_comes a_t_begins a_t_latest a_t_move a_t_sort a_t_items a_t_cell a_t_carried t_isKept t_work t_kind t_letters t_at t_fault t_back t_waits t_miles t_loads t_bestRound t_bestPlace t_bestAdds t_regret t_z t_s) := by
  refine en_I (cc := cX8_isDueAhead) (maxL := 4) (ret := (some .boolean)) (by decide +kernel) (Nat.le_of_ble_eq_true rfl) ?_
  intro p e s m args below meth c A ls C S hl
  have hl : lv_has ls 4 [(0, .ref a_t), (1, .int x1), (2, .int x2)] := hl
  have C : Cx p s m args meth c cX8_isDueAhead (some .boolean) 4 RX8 G A := C
  unfold f_X8_isDueAhead at hf
  have hx := C.1
  have hb := C.2.1
  have hown := C.2.2.2.2.1
  have hts := C.2.2.2.2.2.1
  have hN := C.2.2.2.2.2.2.2.2.2.2
  refine lv_iconst (pc := 0) hx hb dX8_isDueAhead_0 ic_4 ?_
  refine lv_istore_n (pc := 1) (lv' := [(3, .int (4 : Int32)), (0, .ref a_t), (1, .int x1), (2, .int x2)]) hx hb dX8_isDueAhead_1 rfl hl (by decide) rfl (fun ls hl => ?_)
  exact h_X8_isDueAhead_2 C (t_isKept) (t_work) (t_kind) (t_letters) (t_at) (t_fault) (t_back) (t_waits) (t_miles) (t_loads) (t_bestRound) (t_bestPlace) (t_bestAdds) (t_regret) (t_z) (t_s) (x1) (x2) fu ((4 : Int32)) hf S (lv_sub hl [1, 2, 3, 0] rfl)
end

abbrev rm_X8_due : Room := { frames := 2, cells := 0, slots := 0, locals := 45 }
abbrev kw_X8_due : Cond := .code yX8_due cX8_due 5 (some .int)
abbrev w_X8_due (G : GE) (a_t a_t_s a_t_image a_t_mind a_t_aside a_t_text a_t_read a_t_comes a_t_begins a_t_latest a_t_move a_t_sort a_t_items a_t_cell a_t_carried : Nat) (t_isKept : Int32) (t_work : Int32) (t_kind : Int32) (t_letters : Int32) (t_at : Int32) (t_fault : Int32) (t_back : Int32) (t_waits : Int32) (t_miles : Int32) (t_loads : Int32) (t_bestRound : Int32) (t_bestPlace : Int32) (t_bestAdds : Int32) (t_regret : Int32) (t_z : Int32) (t_s : Nat → Int32) : va_W := [(a_t, ob 8 [.ref a_t_s, .ref a_t_image, .ref a_t_mind, .ref a_t_aside, .int t_isKept, .int t_work, .int t_kind, .ref a_t_text, .ref a_t_read, .int t_letters, .int t_at, .int t_fault, .ref a_t_comes, .ref a_t_begins, .ref a_t_latest, .int t_back, .int t_waits, .int t_miles, .int t_loads, .int t_bestRound, .int t_bestPlace, .int t_bestAdds, .int t_regret, .ref a_t_move, .ref a_t_sort, .ref a_t_items, .ref a_t_cell, .ref a_t_carried, .int t_z]), (a_t_s, aI G 258 t_s)]
theorem u_X8_due_X8_isDueAhead_251 {s : State} {args : Array Value} (hts : ∀ w ∈ WU, w.before args s = true) : CallW rm_X8_due s args RX8 RX8 251 yX8_isDueAhead cX8_isDueAhead 4 (some .boolean) (kw_X8_isDueAhead :: WU) rm_X8_isDueAhead 0 0 2 := cwV 2 hts (gV qm_8_251 qi_X8_isDueAhead ql_X8_isDueAhead qn_8 qc_X8_isDueAhead) rfl rfl rfl (by decide +kernel) ⟨Nat.le_of_ble_eq_true rfl, Nat.le_of_ble_eq_true rfl⟩
section
variable {p : Program} {l : Launch} {e : Env} {s : State} {m : MethodId} {args : Array Value} {below : List Frame} {meth : Method} {c : Code} {A : Nat → Prop} {G : GE} {a_t a_t_s a_t_image a_t_mind a_t_aside a_t_text a_t_read a_t_comes a_t_begins a_t_latest a_t_move a_t_sort a_t_items a_t_cell a_t_carried : Nat} {r : Int32}
set_option maxRecDepth 100000 in
set_option maxHeartbeats 4000000 in
theorem k_X8_due_17 (C : Cx p s m args meth c cX8_due (some .int) 5 RX8 G A) (t_isKept : Int32) (t_work : Int32) (t_kind : Int32) (t_letters : Int32) (t_at : Int32) (t_fault : Int32) (t_back : Int32) (t_waits : Int32) (t_miles : Int32) (t_loads : Int32) (t_bestRound : Int32) (t_bestPlace : Int32) (t_bestAdds : Int32) (t_regret : Int32) (t_z : Int32) (t_s : Nat → Int32) (x1 : Int32) (x2 : Int32) (x3 : Int32) (x4 : Int32) (k2 : Int32 → Option (Int32)) (hk2 : ∀ {H : Heap} {locs : List Loc} {ls : Array Slot} (x2' : Int32), k2 x2' = some r → St G A s.heap H locs (w_X8_due G a_t a_t_s a_t_image a_t_mind a_t_aside a_t_text a_t_read a_t_comes a_t_begins a_t_latest a_t_move a_t_sort a_t_items a_t_cell a_t_carried t_isKept t_work t_kind t_letters t_at t_fault t_back t_waits t_miles t_loads t_bestRound t_bestPlace t_bestAdds t_regret t_z t_s) → lv_has ls 5 [(0, .ref a_t), (1, .int x1), (2, .int x2')] → W p l e rm_X8_due s m args below meth c H locs 0 0 (QI G below args s A r (w_X8_due G a_t a_t_s a_t_image a_t_mind a_t_aside a_t_text a_t_read a_t_comes a_t_begins a_t_latest a_t_move a_t_sort a_t_items a_t_cell a_t_carried t_isKept t_work t_kind t_letters t_at t_fault t_back t_waits t_miles t_loads t_bestRound t_bestPlace t_bestAdds t_regret t_z t_s)) (F0 m 2 ls [])) (k17 : Int32 × Int32 → Option (Int32)) (hk17 : ∀ {H : Heap} {locs : List Loc} {ls : Array Slot} (x3' : Int32) (x4' : Int32), k17 (x3', x4') = some r → St G A s.heap H locs (w_X8_due G a_t a_t_s a_t_image a_t_mind a_t_aside a_t_text a_t_read a_t_comes a_t_begins a_t_latest a_t_move a_t_sort a_t_items a_t_cell a_t_carried t_isKept t_work t_kind t_letters t_at t_fault t_back t_waits t_miles t_loads t_bestRound t_bestPlace t_bestAdds t_regret t_z t_s) → lv_has ls 5 [(0, .ref a_t), (1, .int x1), (2, .int x2), (3, .int x3'), (4, .int x4')] → W p l e rm_X8_due s m args below meth c H locs 0 0 (QI G below args s A r (w_X8_due G a_t a_t_s a_t_image a_t_mind a_t_aside a_t_text a_t_read a_t_comes a_t_begins a_t_latest a_t_move a_t_sort a_t_items a_t_cell a_t_carried t_isKept t_work t_kind t_letters t_at t_fault t_back t_waits t_miles t_loads t_bestRound t_bestPlace t_bestAdds t_regret t_z t_s)) (F0 m 17 ls [])) {H : Heap} {locs : List Loc} {ls : Array Slot} (hf : b_X8_due_17 k2 x1 x2 t_s k17 x3 x4 = some r) (S : St G A s.heap H locs (w_X8_due G a_t a_t_s a_t_image a_t_mind a_t_aside a_t_text a_t_read a_t_comes a_t_begins a_t_latest a_t_move a_t_sort a_t_items a_t_cell a_t_carried t_isKept t_work t_kind t_letters t_at t_fault t_back t_waits t_miles t_loads t_bestRound t_bestPlace t_bestAdds t_regret t_z t_s)) (hl : lv_has ls 5 [(0, .ref a_t), (1, .int x1), (2, .int x2), (3, .int x3), (4, .int x4)]) : W p l e rm_X8_due s m args below meth c H locs 0 0 (QI G below args s A r (w_X8_due G a_t a_t_s a_t_image a_t_mind a_t_aside a_t_text a_t_read a_t_comes a_t_begins a_t_latest a_t_move a_t_sort a_t_items a_t_cell a_t_carried t_isKept t_work t_kind t_letters t_at t_fault t_back t_waits t_miles t_loads t_bestRound t_bestPlace t_bestAdds t_regret t_z t_s)) (F0 m 17 ls []) := by
  unfold b_X8_due_17 at hf
  have hx := C.1
  have hb := C.2.1
  have hown := C.2.2.2.2.1
  have hts := C.2.2.2.2.2.1
  have hN := C.2.2.2.2.2.2.2.2.2.2
  refine lv_iload (pc := 17) hx hb dX8_due_17 (lv_at hl 4 rfl) ?_
  refine lv_aload_n (pc := 19) hx hb dX8_due_19 rfl (lv_at hl 0 rfl) ?_
  refine x_get (pc := 20) (ci := 8) (T := TX8) (v := .ref a_t_s) C S 0 rfl rfl inlX8 0 (by decide) rfl qf_8_11 rfl dX8_due_20 ?_
  refine lv_iconst (pc := 23) hx hb dX8_due_23 ic_4 ?_
  refine x_iald (pc := 24) C S 1 rfl (vp_in_iff.mpr (by decide)) dX8_due_24 ?_
  refine lv_icmp_ge (tgt := 58) (pc := 25) hx hb dX8_due_25 (by decide) (fun c1 => ?_) (fun c1 => ?_)
  · have hf := ifp c1 hf
    refine lv_iload_n (pc := 58) hx hb dX8_due_58 rfl (lv_at hl 3 rfl) ?_
    refine lv_iload_n (pc := 59) hx hb dX8_due_59 rfl (lv_at hl 1 rfl) ?_
    refine lv_icmp_ne (tgt := 65) (pc := 60) hx hb dX8_due_60 (by decide) (fun c2 => ?_) (fun c2 => ?_)
    · have hf := ifn c2 hf
      refine lv_iinc (pc := 65) (v := (x2 + (1 : Int32))) (lv' := [(2, .int (x2 + (1 : Int32))), (0, .ref a_t), (1, .int x1), (3, .int x3), (4, .int x4)]) hx hb dX8_due_65 hl (k := 2) rfl (congrArg (fun z => x2 + z) ic_1) (by decide) rfl (fun ls hl => ?_)
      refine lv_goto (tgt := 2) (pc := 68) hx hb dX8_due_68 (by decide) ?_
      exact hk2 ((x2 + (1 : Int32)))  hf S (lv_sub hl [1, 2, 0] rfl)
    · have hf := ifp c2 hf
      refine lv_iload_n (pc := 63) hx hb dX8_due_63 rfl (lv_at hl 2 rfl) ?_
      cases hf
      exact x_iret (pc := 64) C S dX8_due_64
  · have hf := ifn c1 hf
    refine lv_iload_n (pc := 28) hx hb dX8_due_28 rfl (lv_at hl 3 rfl) ?_
    refine lv_iload (pc := 29) hx hb dX8_due_29 (lv_at hl 4 rfl) ?_
    refine lv_iload_n (pc := 31) hx hb dX8_due_31 rfl (lv_at hl 2 rfl) ?_
    refine lv_icmp_eq (tgt := 49) (pc := 32) hx hb dX8_due_32 (by decide) (fun c3 => ?_) (fun c3 => ?_)
    · have hf := ifp c3 hf
      refine lv_iconst (pc := 49) hx hb dX8_due_49 ic_0 ?_
      refine lv_iadd (pc := 50) hx hb dX8_due_50 ?_
      refine lv_istore_n (pc := 51) (lv' := [(3, .int (x3 + (0 : Int32))), (0, .ref a_t), (1, .int x1), (2, .int x2), (4, .int x4)]) hx hb dX8_due_51 rfl hl (by decide) rfl (fun ls hl => ?_)
      refine lv_iinc (pc := 52) (v := (x4 + (1 : Int32))) (lv' := [(4, .int (x4 + (1 : Int32))), (3, .int (x3 + (0 : Int32))), (0, .ref a_t), (1, .int x1), (2, .int x2)]) hx hb dX8_due_52 hl (k := 4) rfl (congrArg (fun z => x4 + z) ic_1) (by decide) rfl (fun ls hl => ?_)
      refine lv_goto (tgt := 17) (pc := 55) hx hb dX8_due_55 (by decide) ?_
      exact hk17 ((x3 + (0 : Int32))) ((x4 + (1 : Int32)))  hf S (lv_sub hl [2, 3, 4, 1, 0] rfl)
    · have hf := ifn c3 hf
      refine lv_aload_n (pc := 35) hx hb dX8_due_35 rfl (lv_at hl 0 rfl) ?_
      refine lv_iload (pc := 36) hx hb dX8_due_36 (lv_at hl 4 rfl) ?_
      refine lv_iload_n (pc := 38) hx hb dX8_due_38 rfl (lv_at hl 2 rfl) ?_
      obtain ⟨r4, hq4, hf⟩ := bd_e hf
      refine x_vI (pc := 39) (As := [.int x4, .int x2]) (rest := [.int x3]) (isC := [0, 1]) (ws' := (w_X8_due G a_t a_t_s a_t_image a_t_mind a_t_aside a_t_text a_t_read a_t_comes a_t_begins a_t_latest a_t_move a_t_sort a_t_items a_t_cell a_t_carried t_isKept t_work t_kind t_letters t_at t_fault t_back t_waits t_miles t_loads t_bestRound t_bestPlace t_bestAdds t_regret t_z t_s)) C S (c_X8_isDueAhead l G a_t a_t_s a_t_image a_t_mind a_t_aside a_t_text a_t_read a_t_comes a_t_begins a_t_latest a_t_move a_t_sort a_t_items a_t_cell a_t_carried t_isKept t_work t_kind t_letters t_at t_fault t_back t_waits t_miles t_loads t_bestRound t_bestPlace t_bestAdds t_regret t_z t_s x4 x2 r4 hq4) (u_X8_due_X8_isDueAhead_251 hts) (ci := 8) rfl 0 rfl rfl (by decide +kernel) [some 0, some 1] (by decide +kernel) rfl rfl rfl hl.1 rfl (Nat.le_of_ble_eq_true rfl) dX8_due_39 (fun H locs S => ?_)
      refine lv_if_eq (tgt := 49) (pc := 42) hx hb dX8_due_42 (by decide) (fun c5 => ?_) (fun c5 => ?_)
      · have hf := ifp c5 hf
        refine lv_iconst (pc := 49) hx hb dX8_due_49 ic_0 ?_
        refine lv_iadd (pc := 50) hx hb dX8_due_50 ?_
        refine lv_istore_n (pc := 51) (lv' := [(3, .int (x3 + (0 : Int32))), (0, .ref a_t), (1, .int x1), (2, .int x2), (4, .int x4)]) hx hb dX8_due_51 rfl hl (by decide) rfl (fun ls hl => ?_)
        refine lv_iinc (pc := 52) (v := (x4 + (1 : Int32))) (lv' := [(4, .int (x4 + (1 : Int32))), (3, .int (x3 + (0 : Int32))), (0, .ref a_t), (1, .int x1), (2, .int x2)]) hx hb dX8_due_52 hl (k := 4) rfl (congrArg (fun z => x4 + z) ic_1) (by decide) rfl (fun ls hl => ?_)
        refine lv_goto (tgt := 17) (pc := 55) hx hb dX8_due_55 (by decide) ?_
        exact hk17 ((x3 + (0 : Int32))) ((x4 + (1 : Int32)))  hf S (lv_sub hl [2, 3, 4, 1, 0] rfl)
      · have hf := ifn c5 hf
        refine lv_iconst (pc := 45) hx hb dX8_due_45 ic_1 ?_
        refine lv_goto (tgt := 50) (pc := 46) hx hb dX8_due_46 (by decide) ?_
        refine lv_iadd (pc := 50) hx hb dX8_due_50 ?_
        refine lv_istore_n (pc := 51) (lv' := [(3, .int (x3 + (1 : Int32))), (0, .ref a_t), (1, .int x1), (2, .int x2), (4, .int x4)]) hx hb dX8_due_51 rfl hl (by decide) rfl (fun ls hl => ?_)
        refine lv_iinc (pc := 52) (v := (x4 + (1 : Int32))) (lv' := [(4, .int (x4 + (1 : Int32))), (3, .int (x3 + (1 : Int32))), (0, .ref a_t), (1, .int x1), (2, .int x2)]) hx hb dX8_due_52 hl (k := 4) rfl (congrArg (fun z => x4 + z) ic_1) (by decide) rfl (fun ls hl => ?_)
        refine lv_goto (tgt := 17) (pc := 55) hx hb dX8_due_55 (by decide) ?_
        exact hk17 ((x3 + (1 : Int32))) ((x4 + (1 : Int32)))  hf S (lv_sub hl [2, 3, 4, 1, 0] rfl)
set_option maxRecDepth 100000 in
set_option maxHeartbeats 4000000 in
theorem h_X8_due_17 (C : Cx p s m args meth c cX8_due (some .int) 5 RX8 G A) (t_isKept : Int32) (t_work : Int32) (t_kind : Int32) (t_letters : Int32) (t_at : Int32) (t_fault : Int32) (t_back : Int32) (t_waits : Int32) (t_miles : Int32) (t_loads : Int32) (t_bestRound : Int32) (t_bestPlace : Int32) (t_bestAdds : Int32) (t_regret : Int32) (t_z : Int32) (t_s : Nat → Int32) (x1 : Int32) (x2 : Int32) (k2 : Int32 → Option (Int32)) (hk2 : ∀ {H : Heap} {locs : List Loc} {ls : Array Slot} (x2' : Int32), k2 x2' = some r → St G A s.heap H locs (w_X8_due G a_t a_t_s a_t_image a_t_mind a_t_aside a_t_text a_t_read a_t_comes a_t_begins a_t_latest a_t_move a_t_sort a_t_items a_t_cell a_t_carried t_isKept t_work t_kind t_letters t_at t_fault t_back t_waits t_miles t_loads t_bestRound t_bestPlace t_bestAdds t_regret t_z t_s) → lv_has ls 5 [(0, .ref a_t), (1, .int x1), (2, .int x2')] → W p l e rm_X8_due s m args below meth c H locs 0 0 (QI G below args s A r (w_X8_due G a_t a_t_s a_t_image a_t_mind a_t_aside a_t_text a_t_read a_t_comes a_t_begins a_t_latest a_t_move a_t_sort a_t_items a_t_cell a_t_carried t_isKept t_work t_kind t_letters t_at t_fault t_back t_waits t_miles t_loads t_bestRound t_bestPlace t_bestAdds t_regret t_z t_s)) (F0 m 2 ls [])) : ∀ (n : Nat) (x3 : Int32) (x4 : Int32) {H : Heap} {locs : List Loc} {ls : Array Slot} (hf : lp (fun k x => b_X8_due_17 k2 x1 x2 t_s k x.1 x.2) n (x3, x4) = some r) (S : St G A s.heap H locs (w_X8_due G a_t a_t_s a_t_image a_t_mind a_t_aside a_t_text a_t_read a_t_comes a_t_begins a_t_latest a_t_move a_t_sort a_t_items a_t_cell a_t_carried t_isKept t_work t_kind t_letters t_at t_fault t_back t_waits t_miles t_loads t_bestRound t_bestPlace t_bestAdds t_regret t_z t_s)) (hl : lv_has ls 5 [(0, .ref a_t), (1, .int x1), (2, .int x2), (3, .int x3), (4, .int x4)]), W p l e rm_X8_due s m args below meth c H locs 0 0 (QI G below args s A r (w_X8_due G a_t a_t_s a_t_image a_t_mind a_t_aside a_t_text a_t_read a_t_comes a_t_begins a_t_latest a_t_move a_t_sort a_t_items a_t_cell a_t_carried t_isKept t_work t_kind t_letters t_at t_fault t_back t_waits t_miles t_loads t_bestRound t_bestPlace t_bestAdds t_regret t_z t_s)) (F0 m 17 ls []) := by
  intro n
  induction n with
  | zero =>
    intro x3 x4  H locs ls hf
    cases hf
  | succ n ih =>
    intro x3 x4  H locs ls hf S hl
    have hf : b_X8_due_17 k2 x1 x2 t_s (lp (fun k x => b_X8_due_17 k2 x1 x2 t_s k x.1 x.2) n) x3 x4 = some r := hf
    exact k_X8_due_17 C t_isKept t_work t_kind t_letters t_at t_fault t_back t_waits t_miles t_loads t_bestRound t_bestPlace t_bestAdds t_regret t_z t_s x1 x2 x3 x4  k2 hk2 (lp (fun k x => b_X8_due_17 k2 x1 x2 t_s k x.1 x.2) n) (fun x3' x4'  h S hl => ih x3' x4'  h S hl) hf S hl
set_option maxRecDepth 100000 in
set_option maxHeartbeats 4000000 in
theorem k_X8_due_2 (C : Cx p s m args meth c cX8_due (some .int) 5 RX8 G A) (t_isKept : Int32) (t_work : Int32) (t_kind : Int32) (t_letters : Int32) (t_at : Int32) (t_fault : Int32) (t_back : Int32) (t_waits : Int32) (t_miles : Int32) (t_loads : Int32) (t_bestRound : Int32) (t_bestPlace : Int32) (t_bestAdds : Int32) (t_regret : Int32) (t_z : Int32) (t_s : Nat → Int32) (x1 : Int32) (x2 : Int32) (k2 : Int32 → Option (Int32)) (hk2 : ∀ {H : Heap} {locs : List Loc} {ls : Array Slot} (x2' : Int32), k2 x2' = some r → St G A s.heap H locs (w_X8_due G a_t a_t_s a_t_image a_t_mind a_t_aside a_t_text a_t_read a_t_comes a_t_begins a_t_latest a_t_move a_t_sort a_t_items a_t_cell a_t_carried t_isKept t_work t_kind t_letters t_at t_fault t_back t_waits t_miles t_loads t_bestRound t_bestPlace t_bestAdds t_regret t_z t_s) → lv_has ls 5 [(0, .ref a_t), (1, .int x1), (2, .int x2')] → W p l e rm_X8_due s m args below meth c H locs 0 0 (QI G below args s A r (w_X8_due G a_t a_t_s a_t_image a_t_mind a_t_aside a_t_text a_t_read a_t_comes a_t_begins a_t_latest a_t_move a_t_sort a_t_items a_t_cell a_t_carried t_isKept t_work t_kind t_letters t_at t_fault t_back t_waits t_miles t_loads t_bestRound t_bestPlace t_bestAdds t_regret t_z t_s)) (F0 m 2 ls [])) {H : Heap} {locs : List Loc} {ls : Array Slot} (hf : b_X8_due_2 x1 t_s k2 x2 = some r) (S : St G A s.heap H locs (w_X8_due G a_t a_t_s a_t_image a_t_mind a_t_aside a_t_text a_t_read a_t_comes a_t_begins a_t_latest a_t_move a_t_sort a_t_items a_t_cell a_t_carried t_isKept t_work t_kind t_letters t_at t_fault t_back t_waits t_miles t_loads t_bestRound t_bestPlace t_bestAdds t_regret t_z t_s)) (hl : lv_has ls 5 [(0, .ref a_t), (1, .int x1), (2, .int x2)]) : W p l e rm_X8_due s m args below meth c H locs 0 0 (QI G below args s A r (w_X8_due G a_t a_t_s a_t_image a_t_mind a_t_aside a_t_text a_t_read a_t_comes a_t_begins a_t_latest a_t_move a_t_sort a_t_items a_t_cell a_t_carried t_isKept t_work t_kind t_letters t_at t_fault t_back t_waits t_miles t_loads t_bestRound t_bestPlace t_bestAdds t_regret t_z t_s)) (F0 m 2 ls []) := by
  unfold b_X8_due_2 at hf
  have hx := C.1
  have hb := C.2.1
  have hown := C.2.2.2.2.1
  have hts := C.2.2.2.2.2.1
  have hN := C.2.2.2.2.2.2.2.2.2.2
  refine lv_iload_n (pc := 2) hx hb dX8_due_2 rfl (lv_at hl 2 rfl) ?_
  refine lv_aload_n (pc := 3) hx hb dX8_due_3 rfl (lv_at hl 0 rfl) ?_
  refine x_get (pc := 4) (ci := 8) (T := TX8) (v := .ref a_t_s) C S 0 rfl rfl inlX8 0 (by decide) rfl qf_8_11 rfl dX8_due_4 ?_
  refine lv_iconst (pc := 7) hx hb dX8_due_7 ic_4 ?_
  refine x_iald (pc := 8) C S 1 rfl (vp_in_iff.mpr (by decide)) dX8_due_8 ?_
  refine lv_icmp_ge (tgt := 71) (pc := 9) hx hb dX8_due_9 (by decide) (fun c1 => ?_) (fun c1 => ?_)
  · have hf := ifp c1 hf
    refine lv_bipush (pc := 71) hx hb dX8_due_71 bc_m2 ?_
    cases hf
    exact x_iret (pc := 73) C S dX8_due_73
  · have hf := ifn c1 hf
    refine lv_iconst (pc := 12) hx hb dX8_due_12 ic_0 ?_
    refine lv_istore_n (pc := 13) (lv' := [(3, .int (0 : Int32)), (0, .ref a_t), (1, .int x1), (2, .int x2)]) hx hb dX8_due_13 rfl hl (by decide) rfl (fun ls hl => ?_)
    refine lv_iconst (pc := 14) hx hb dX8_due_14 ic_0 ?_
    refine lv_istore (pc := 15) (lv' := [(4, .int (0 : Int32)), (3, .int (0 : Int32)), (0, .ref a_t), (1, .int x1), (2, .int x2)]) hx hb dX8_due_15 hl (by decide) rfl (fun ls hl => ?_)
    exact h_X8_due_17 C (t_isKept) (t_work) (t_kind) (t_letters) (t_at) (t_fault) (t_back) (t_waits) (t_miles) (t_loads) (t_bestRound) (t_bestPlace) (t_bestAdds) (t_regret) (t_z) (t_s) (x1) (x2) k2 hk2 fu ((0 : Int32)) ((0 : Int32)) hf S (lv_sub hl [2, 3, 4, 1, 0] rfl)
set_option maxRecDepth 100000 in
set_option maxHeartbeats 4000000 in
theorem h_X8_due_2 (C : Cx p s m args meth c cX8_due (some .int) 5 RX8 G A) (t_isKept : Int32) (t_work : Int32) (t_kind : Int32) (t_letters : Int32) (t_at : Int32) (t_fault : Int32) (t_back : Int32) (t_waits : Int32) (t_miles : Int32) (t_loads : Int32) (t_bestRound : Int32) (t_bestPlace : Int32) (t_bestAdds : Int32) (t_regret : Int32) (t_z : Int32) (t_s : Nat → Int32) (x1 : Int32) : ∀ (n : Nat) (x2 : Int32) {H : Heap} {locs : List Loc} {ls : Array Slot} (hf : lp (fun k x => b_X8_due_2 x1 t_s k x) n x2 = some r) (S : St G A s.heap H locs (w_X8_due G a_t a_t_s a_t_image a_t_mind a_t_aside a_t_text a_t_read a_t_comes a_t_begins a_t_latest a_t_move a_t_sort a_t_items a_t_cell a_t_carried t_isKept t_work t_kind t_letters t_at t_fault t_back t_waits t_miles t_loads t_bestRound t_bestPlace t_bestAdds t_regret t_z t_s)) (hl : lv_has ls 5 [(0, .ref a_t), (1, .int x1), (2, .int x2)]), W p l e rm_X8_due s m args below meth c H locs 0 0 (QI G below args s A r (w_X8_due G a_t a_t_s a_t_image a_t_mind a_t_aside a_t_text a_t_read a_t_comes a_t_begins a_t_latest a_t_move a_t_sort a_t_items a_t_cell a_t_carried t_isKept t_work t_kind t_letters t_at t_fault t_back t_waits t_miles t_loads t_bestRound t_bestPlace t_bestAdds t_regret t_z t_s)) (F0 m 2 ls []) := by
  intro n
  induction n with
  | zero =>
    intro x2  H locs ls hf
    cases hf
  | succ n ih =>
    intro x2  H locs ls hf S hl
    have hf : b_X8_due_2 x1 t_s (lp (fun k x => b_X8_due_2 x1 t_s k x) n) x2 = some r := hf
    exact k_X8_due_2 C t_isKept t_work t_kind t_letters t_at t_fault t_back t_waits t_miles t_loads t_bestRound t_bestPlace t_bestAdds t_regret t_z t_s x1 x2  (lp (fun k x => b_X8_due_2 x1 t_s k x) n) (fun x2'  h S hl => ih x2'  h S hl) hf S hl
set_option maxRecDepth 100000 in
set_option maxHeartbeats 4000000 in
theorem c_X8_due (l : Launch) (G : GE) (a_t a_t_s a_t_image a_t_mind a_t_aside a_t_text a_t_read a_t_comes a_t_begins a_t_latest a_t_move a_t_sort a_t_items a_t_cell a_t_carried : Nat) (t_isKept : Int32) (t_work : Int32) (t_kind : Int32) (t_letters : Int32) (t_at : Int32) (t_fault : Int32) (t_back : Int32) (t_waits : Int32) (t_miles : Int32) (t_loads : Int32) (t_bestRound : Int32) (t_bestPlace : Int32) (t_bestAdds : Int32) (t_regret : Int32) (t_z : Int32) (t_s : Nat → Int32) (x1 : Int32) (r : Int32) (hf : f_X8_due t_s x1 = some r) : CI l G yX8_due kw_X8_due rm_X8_due [.ref a_t, .int x1] (w_X8_due G a_t a_t_s a_t_image a_t_mind a_t_aside a_t_text a_t_read a_t_comes a_t_begins a_t_latest a_t_move a_t_sort a_t_items a_t_cell a_t_carried t_isKept t_work t_kind t_letters t_at t_fault t_back t_waits t_miles t_loads t_bestRound t_bestPlace t_bestAdds t_regret t_z t_s) r (w_X8_due G a_t a_t_s a_t_image a_t_mind a_t_aside a_t_text a_t_read a_t_comes a_t_begins a_t_latest a_t_move a_t_sort a_t_items a_t_cell a_t_carried t_isKept t_work t_kind t_letters t_at t_fault t_back t_waits t_miles t_loads t_bestRound t_bestPlace t_bestAdds t_regret t_z t_s) := by
  refine en_I (cc := cX8_due) (maxL := 5) (ret := (some .int)) (by decide +kernel) (Nat.le_of_ble_eq_true rfl) ?_
  intro p e s m args below meth c A ls C S hl
  have hl : lv_has ls 5 [(0, .ref a_t), (1, .int x1)] := hl
  have C : Cx p s m args meth c cX8_due (some .int) 5 RX8 G A := C
  unfold f_X8_due at hf
  have hx := C.1
  have hb := C.2.1
  have hown := C.2.2.2.2.1
  have hts := C.2.2.2.2.2.1
  have hN := C.2.2.2.2.2.2.2.2.2.2
  refine lv_iconst (pc := 0) hx hb dX8_due_0 ic_0 ?_
  refine lv_istore_n (pc := 1) (lv' := [(2, .int (0 : Int32)), (0, .ref a_t), (1, .int x1)]) hx hb dX8_due_1 rfl hl (by decide) rfl (fun ls hl => ?_)
  exact h_X8_due_2 C (t_isKept) (t_work) (t_kind) (t_letters) (t_at) (t_fault) (t_back) (t_waits) (t_miles) (t_loads) (t_bestRound) (t_bestPlace) (t_bestAdds) (t_regret) (t_z) (t_s) (x1) fu ((0 : Int32)) hf S (lv_sub hl [1, 2, 0] rfl)
end
