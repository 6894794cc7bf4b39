abbrev rm_X8_roundAt : Room := { frames := 0, cells := 0, slots := 0, locals := 0 }
abbrev kw_X8_roundAt : Cond := .code yX8_roundAt cX8_roundAt 3 (some .int)
abbrev w_X8_roundAt (G : GE) (a_t a_t_s a_t_image a_t_mind a_t_aside a_t_text a_t_read a_t_comes a_t_begins a_t_latest a_t_move a_t_sort a_t_items a_t_cell a_t_carried : Nat) (t_isKept : Int32) (t_work : Int32) (t_kind : Int32) (t_letters : Int32) (t_at : Int32) (t_fault : Int32) (t_back : Int32) (t_waits : Int32) (t_miles : Int32) (t_loads : Int32) (t_bestRound : Int32) (t_bestPlace : Int32) (t_bestAdds : Int32) (t_regret : Int32) (t_z : Int32) (t_s : Nat → Int32) : va_W := [(a_t, ob 8 [.ref a_t_s, .ref a_t_image, .ref a_t_mind, .ref a_t_aside, .int t_isKept, .int t_work, .int t_kind, .ref a_t_text, .ref a_t_read, .int t_letters, .int t_at, .int t_fault, .ref a_t_comes, .ref a_t_begins, .ref a_t_latest, .int t_back, .int t_waits, .int t_miles, .int t_loads, .int t_bestRound, .int t_bestPlace, .int t_bestAdds, .int t_regret, .ref a_t_move, .ref a_t_sort, .ref a_t_items, .ref a_t_cell, .ref a_t_carried, .int t_z]), (a_t_s, aI G 258 t_s)]
section
variable {p : Program} {l : Launch} {e : Env} {s : State} {m : MethodId} {args : Array Value} {below : List Frame} {meth : Method} {c : Code} {A : Nat → Prop} {G : GE} {a_t a_t_s a_t_image a_t_mind a_t_aside a_t_text a_t_read a_t_comes a_t_begins a_t_latest a_t_move a_t_sort a_t_items a_t_cell a_t_carried : Nat} {r : Int32}
set_option maxRecDepth 100000 in
set_option maxHeartbeats 4000000 in
theorem c_X8_roundAt (l : Launch) (G : GE) (a_t a_t_s a_t_image a_t_mind a_t_aside a_t_text a_t_read a_t_comes a_t_begins a_t_latest a_t_move a_t_sort a_t_items a_t_cell a_t_carried : Nat) (t_isKept : Int32) (t_work : Int32) (t_kind : Int32) (t_letters : Int32) (t_at : Int32) (t_fault : Int32) (t_back : Int32) (t_waits : Int32) (t_miles : Int32) (t_loads : Int32) (t_bestRound : Int32) (t_bestPlace : Int32) (t_bestAdds : Int32) (t_regret : Int32) (t_z : Int32) (t_s : Nat → Int32) (x1 : Int32) (x2 : Int32) (r : Int32) (hf : f_X8_roundAt t_s x1 x2 = some r) : CI l G yX8_roundAt kw_X8_roundAt rm_X8_roundAt [.ref a_t, .int x1, .int x2] (w_X8_roundAt G a_t a_t_s a_t_image a_t_mind a_t_aside a_t_text a_t_read a_t_comes a_t_begins a_t_latest a_t_move a_t_sort a_t_items a_t_cell a_t_carried t_isKept t_work t_kind t_letters t_at t_fault t_back t_waits t_miles t_loads t_bestRound t_bestPlace t_bestAdds t_regret t_z t_s) r (w_X8_roundAt G a_t a_t_s a_t_image a_t_mind a_t_aside a_t_text a_t_read a_t_comes a_t_begins a_t_latest a_t_move a_t_sort a_t_items a_t_cell a_t_carried t_isKept t_work t_kind t_letters t_at t_fault t_back t_waits t_miles t_loads t_bestRound t_bestPlace t_bestAdds t_regret t_z t_s) := by
  refine en_I (cc := cX8_roundAt) (maxL := 3) (ret := (some .int)) (by decide +kernel) (Nat.le_of_ble_eq_true rfl) ?_
  intro p e s m args below meth c A ls C S hl
  have hl : lv_has ls 3 [(0, .ref a_t), (1, .int x1), (2, .int x2)] := hl
  have C : Cx p s m args meth c cX8_roundAt (some .int) 3 RX8 G A := C
  unfold f_X8_roundAt at hf
  have hx := C.1
  have hb := C.2.1
  have hown := C.2.2.2.2.1
  have hts := C.2.2.2.2.2.1
  have hN := C.2.2.2.2.2.2.2.2.2.2
  refine lv_aload_n (pc := 0) hx hb dX8_roundAt_0 rfl (lv_at hl 0 rfl) ?_
  refine x_get (pc := 1) (ci := 8) (T := TX8) (v := .ref a_t_s) C S 0 rfl rfl inlX8 0 (by decide) rfl qf_8_11 rfl dX8_roundAt_1 ?_
  refine lv_sipush (pc := 4) hx hb dX8_roundAt_4 sc_178 ?_
  refine lv_bipush (pc := 7) hx hb dX8_roundAt_7 bc_20 ?_
  refine lv_iload_n (pc := 9) hx hb dX8_roundAt_9 rfl (lv_at hl 1 rfl) ?_
  refine lv_imul (pc := 10) hx hb dX8_roundAt_10 ?_
  refine lv_iadd (pc := 11) hx hb dX8_roundAt_11 ?_
  refine lv_iload_n (pc := 12) hx hb dX8_roundAt_12 rfl (lv_at hl 2 rfl) ?_
  refine lv_iadd (pc := 13) hx hb dX8_roundAt_13 ?_
  obtain ⟨hv1, hf⟩ := gI_e hf
  refine x_iald (pc := 14) C S 1 rfl hv1 dX8_roundAt_14 ?_
  cases hf
  exact x_iret (pc := 15) C S dX8_roundAt_15
end

abbrev rm_X8_inRow : Room := { frames := 0, cells := 0, slots := 0, locals := 0 }
abbrev kw_X8_inRow : Cond := .code yX8_inRow cX8_inRow 3 (some .int)
abbrev w_X8_inRow (G : GE) (a_t a_t_s a_t_image a_t_mind a_t_aside a_t_text a_t_read a_t_comes a_t_begins a_t_latest a_t_move a_t_sort a_t_items a_t_cell a_t_carried : Nat) (t_isKept : Int32) (t_work : Int32) (t_kind : Int32) (t_letters : Int32) (t_at : Int32) (t_fault : Int32) (t_back : Int32) (t_waits : Int32) (t_miles : Int32) (t_loads : Int32) (t_bestRound : Int32) (t_bestPlace : Int32) (t_bestAdds : Int32) (t_regret : Int32) (t_z : Int32) (t_s : Nat → Int32) : va_W := [(a_t, ob 8 [.ref a_t_s, .ref a_t_image, .ref a_t_mind, .ref a_t_aside, .int t_isKept, .int t_work, .int t_kind, .ref a_t_text, .ref a_t_read, .int t_letters, .int t_at, .int t_fault, .ref a_t_comes, .ref a_t_begins, .ref a_t_latest, .int t_back, .int t_waits, .int t_miles, .int t_loads, .int t_bestRound, .int t_bestPlace, .int t_bestAdds, .int t_regret, .ref a_t_move, .ref a_t_sort, .ref a_t_items, .ref a_t_cell, .ref a_t_carried, .int t_z]), (a_t_s, aI G 258 t_s)]
section
variable {p : Program} {l : Launch} {e : Env} {s : State} {m : MethodId} {args : Array Value} {below : List Frame} {meth : Method} {c : Code} {A : Nat → Prop} {G : GE} {a_t a_t_s a_t_image a_t_mind a_t_aside a_t_text a_t_read a_t_comes a_t_begins a_t_latest a_t_move a_t_sort a_t_items a_t_cell a_t_carried : Nat} {r : Int32}
set_option maxRecDepth 100000 in
set_option maxHeartbeats 4000000 in
theorem c_X8_inRow (l : Launch) (G : GE) (a_t a_t_s a_t_image a_t_mind a_t_aside a_t_text a_t_read a_t_comes a_t_begins a_t_latest a_t_move a_t_sort a_t_items a_t_cell a_t_carried : Nat) (t_isKept : Int32) (t_work : Int32) (t_kind : Int32) (t_letters : Int32) (t_at : Int32) (t_fault : Int32) (t_back : Int32) (t_waits : Int32) (t_miles : Int32) (t_loads : Int32) (t_bestRound : Int32) (t_bestPlace : Int32) (t_bestAdds : Int32) (t_regret : Int32) (t_z : Int32) (t_s : Nat → Int32) (x1 : Int32) (x2 : Int32) (r : Int32) (hf : f_X8_inRow t_s x1 x2 = some r) : CI l G yX8_inRow kw_X8_inRow rm_X8_inRow [.ref a_t, .int x1, .int x2] (w_X8_inRow G a_t a_t_s a_t_image a_t_mind a_t_aside a_t_text a_t_read a_t_comes a_t_begins a_t_latest a_t_move a_t_sort a_t_items a_t_cell a_t_carried t_isKept t_work t_kind t_letters t_at t_fault t_back t_waits t_miles t_loads t_bestRound t_bestPlace t_bestAdds t_regret t_z t_s) r (w_X8_inRow G a_t a_t_s a_t_image a_t_mind a_t_aside a_t_text a_t_read a_t_comes a_t_begins a_t_latest a_t_move a_t_sort a_t_items a_t_cell a_t_carried t_isKept t_work t_kind t_letters t_at t_fault t_back t_waits t_miles t_loads t_bestRound t_bestPlace t_bestAdds t_regret t_z t_s) := by
  refine en_I (cc := cX8_inRow) (maxL := 3) (ret := (some .int)) (by decide +kernel) (Nat.le_of_ble_eq_true rfl) ?_
  intro p e s m args below meth c A ls C S hl
  have hl : lv_has ls 3 [(0, .ref a_t), (1, .int x1), (2, .int x2)] := hl
  have C : Cx p s m args meth c cX8_inRow (some .int) 3 RX8 G A := C
  unfold f_X8_inRow at hf
  have hx := C.1
  have hb := C.2.1
  have hown := C.2.2.2.2.1
  have hts := C.2.2.2.2.2.1
  have hN := C.2.2.2.2.2.2.2.2.2.2
  refine lv_aload_n (pc := 0) hx hb dX8_inRow_0 rfl (lv_at hl 0 rfl) ?_
  refine x_get (pc := 1) (ci := 8) (T := TX8) (v := .ref a_t_s) C S 0 rfl rfl inlX8 0 (by decide) rfl qf_8_11 rfl dX8_inRow_1 ?_
  refine lv_sipush (pc := 4) hx hb dX8_inRow_4 sc_178 ?_
  refine lv_bipush (pc := 7) hx hb dX8_inRow_7 bc_20 ?_
  refine lv_iload_n (pc := 9) hx hb dX8_inRow_9 rfl (lv_at hl 1 rfl) ?_
  refine lv_imul (pc := 10) hx hb dX8_inRow_10 ?_
  refine lv_iadd (pc := 11) hx hb dX8_inRow_11 ?_
  refine lv_iconst (pc := 12) hx hb dX8_inRow_12 ic_4 ?_
  refine lv_iadd (pc := 13) hx hb dX8_inRow_13 ?_
  refine lv_iload_n (pc := 14) hx hb dX8_inRow_14 rfl (lv_at hl 2 rfl) ?_
  refine lv_iadd (pc := 15) hx hb dX8_inRow_15 ?_
  obtain ⟨hv1, hf⟩ := gI_e hf
  refine x_iald (pc := 16) C S 1 rfl hv1 dX8_inRow_16 ?_
  cases hf
  exact x_iret (pc := 17) C S dX8_inRow_17
end

abbrev rm_X8_stopAt : Room := { frames := 0, cells := 0, slots := 0, locals := 0 }
abbrev kw_X8_stopAt : Cond := .code yX8_stopAt cX8_stopAt 3 (some .int)
abbrev w_X8_stopAt (G : GE) (a_t a_t_s a_t_image a_t_mind a_t_aside a_t_text a_t_read a_t_comes a_t_begins a_t_latest a_t_move a_t_sort a_t_items a_t_cell a_t_carried : Nat) (t_isKept : Int32) (t_work : Int32) (t_kind : Int32) (t_letters : Int32) (t_at : Int32) (t_fault : Int32) (t_back : Int32) (t_waits : Int32) (t_miles : Int32) (t_loads : Int32) (t_bestRound : Int32) (t_bestPlace : Int32) (t_bestAdds : Int32) (t_regret : Int32) (t_z : Int32) (t_s : Nat → Int32) : va_W := [(a_t, ob 8 [.ref a_t_s, .ref a_t_image, .ref a_t_mind, .ref a_t_aside, .int t_isKept, .int t_work, .int t_kind, .ref a_t_text, .ref a_t_read, .int t_letters, .int t_at, .int t_fault, .ref a_t_comes, .ref a_t_begins, .ref a_t_latest, .int t_back, .int t_waits, .int t_miles, .int t_loads, .int t_bestRound, .int t_bestPlace, .int t_bestAdds, .int t_regret, .ref a_t_move, .ref a_t_sort, .ref a_t_items, .ref a_t_cell, .ref a_t_carried, .int t_z]), (a_t_s, aI G 258 t_s)]
section
variable {p : Program} {l : Launch} {e : Env} {s : State} {m : MethodId} {args : Array Value} {below : List Frame} {meth : Method} {c : Code} {A : Nat → Prop} {G : GE} {a_t a_t_s a_t_image a_t_mind a_t_aside a_t_text a_t_read a_t_comes a_t_begins a_t_latest a_t_move a_t_sort a_t_items a_t_cell a_t_carried : Nat} {r : Int32}
set_option maxRecDepth 100000 in
set_option maxHeartbeats 4000000 in
theorem c_X8_stopAt (l : Launch) (G : GE) (a_t a_t_s a_t_image a_t_mind a_t_aside a_t_text a_t_read a_t_comes a_t_begins a_t_latest a_t_move a_t_sort a_t_items a_t_cell a_t_carried : Nat) (t_isKept : Int32) (t_work : Int32) (t_kind : Int32) (t_letters : Int32) (t_at : Int32) (t_fault : Int32) (t_back : Int32) (t_waits : Int32) (t_miles : Int32) (t_loads : Int32) (t_bestRound : Int32) (t_bestPlace : Int32) (t_bestAdds : Int32) (t_regret : Int32) (t_z : Int32) (t_s : Nat → Int32) (x1 : Int32) (x2 : Int32) (r : Int32) (hf : f_X8_stopAt t_s x1 x2 = some r) : CI l G yX8_stopAt kw_X8_stopAt rm_X8_stopAt [.ref a_t, .int x1, .int x2] (w_X8_stopAt G a_t a_t_s a_t_image a_t_mind a_t_aside a_t_text a_t_read a_t_comes a_t_begins a_t_latest a_t_move a_t_sort a_t_items a_t_cell a_t_carried t_isKept t_work t_kind t_letters t_at t_fault t_back t_waits t_miles t_loads t_bestRound t_bestPlace t_bestAdds t_regret t_z t_s) r (w_X8_stopAt G a_t a_t_s a_t_image a_t_mind a_t_aside a_t_text a_t_read a_t_comes a_t_begins a_t_latest a_t_move a_t_sort a_t_items a_t_cell a_t_carried t_isKept t_work t_kind t_letters t_at t_fault t_back t_waits t_miles t_loads t_bestRound t_bestPlace t_bestAdds t_regret t_z t_s) := by
  refine en_I (cc := cX8_stopAt) (maxL := 3) (ret := (some .int)) (by decide +kernel) (Nat.le_of_ble_eq_true rfl) ?_
  intro p e s m args below meth c A ls C S hl
  have hl : lv_has ls 3 [(0, .ref a_t), (1, .int x1), (2, .int x2)] := hl
  have C : Cx p s m args meth c cX8_stopAt (some .int) 3 RX8 G A := C
  unfold f_X8_stopAt at hf
  have hx := C.1
  have hb := C.2.1
  have hown := C.2.2.2.2.1
  have hts := C.2.2.2.2.2.1
  have hN := C.2.2.2.2.2.2.2.2.2.2
  refine lv_aload_n (pc := 0) hx hb dX8_stopAt_0 rfl (lv_at hl 0 rfl) ?_
  refine x_get (pc := 1) (ci := 8) (T := TX8) (v := .ref a_t_s) C S 0 rfl rfl inlX8 0 (by decide) rfl qf_8_11 rfl dX8_stopAt_1 ?_
  refine lv_bipush (pc := 4) hx hb dX8_stopAt_4 bc_50 ?_
  refine lv_bipush (pc := 6) hx hb dX8_stopAt_6 bc_8 ?_
  refine lv_iload_n (pc := 8) hx hb dX8_stopAt_8 rfl (lv_at hl 1 rfl) ?_
  refine lv_imul (pc := 9) hx hb dX8_stopAt_9 ?_
  refine lv_iadd (pc := 10) hx hb dX8_stopAt_10 ?_
  refine lv_iload_n (pc := 11) hx hb dX8_stopAt_11 rfl (lv_at hl 2 rfl) ?_
  refine lv_iadd (pc := 12) hx hb dX8_stopAt_12 ?_
  obtain ⟨hv1, hf⟩ := gI_e hf
  refine x_iald (pc := 13) C S 1 rfl hv1 dX8_stopAt_13 ?_
  cases hf
  exact x_iret (pc := 14) C S dX8_stopAt_14
end

abbrev rm_X8_apart : Room := { frames := 1, cells := 0, slots := 0, locals := 24 }
abbrev kw_X8_apart : Cond := .code yX8_apart cX8_apart 7 (some .int)
abbrev w_X8_apart (G : GE) (a_t a_t_s a_t_image a_t_mind a_t_aside a_t_text a_t_read a_t_comes a_t_begins a_t_latest a_t_move a_t_sort a_t_items a_t_cell a_t_carried : Nat) (t_isKept : Int32) (t_work : Int32) (t_kind : Int32) (t_letters : Int32) (t_at : Int32) (t_fault : Int32) (t_back : Int32) (t_waits : Int32) (t_miles : Int32) (t_loads : Int32) (t_bestRound : Int32) (t_bestPlace : Int32) (t_bestAdds : Int32) (t_regret : Int32) (t_z : Int32) (t_s : Nat → Int32) : va_W := [(a_t, ob 8 [.ref a_t_s, .ref a_t_image, .ref a_t_mind, .ref a_t_aside, .int t_isKept, .int t_work, .int t_kind, .ref a_t_text, .ref a_t_read, .int t_letters, .int t_at, .int t_fault, .ref a_t_comes, .ref a_t_begins, .ref a_t_latest, .int t_back, .int t_waits, .int t_miles, .int t_loads, .int t_bestRound, .int t_bestPlace, .int t_bestAdds, .int t_regret, .ref a_t_move, .ref a_t_sort, .ref a_t_items, .ref a_t_cell, .ref a_t_carried, .int t_z]), (a_t_s, aI G 258 t_s)]
section
variable {p : Program} {l : Launch} {e : Env} {s : State} {m : MethodId} {args : Array Value} {below : List Frame} {meth : Method} {c : Code} {A : Nat → Prop} {G : GE} {a_t a_t_s a_t_image a_t_mind a_t_aside a_t_text a_t_read a_t_comes a_t_begins a_t_latest a_t_move a_t_sort a_t_items a_t_cell a_t_carried : Nat} {r : Int32}
set_option maxRecDepth 100000 in
set_option maxHeartbeats 4000000 in
theorem k_X8_apart_36 (C : Cx p s m args meth c cX8_apart (some .int) 7 RX8 G A) (t_isKept : Int32) (t_work : Int32) (t_kind : Int32) (t_letters : Int32) (t_at : Int32) (t_fault : Int32) (t_back : Int32) (t_waits : Int32) (t_miles : Int32) (t_loads : Int32) (t_bestRound : Int32) (t_bestPlace : Int32) (t_bestAdds : Int32) (t_regret : Int32) (t_z : Int32) (t_s : Nat → Int32) (x5 : Int32) (x6 : Int32) (y0 : Int32) {H : Heap} {locs : List Loc} {ls : Array Slot} (hf : b_X8_apart_36 x5 x6 y0 t_s = some r) (S : St G A s.heap H locs (w_X8_apart G a_t a_t_s a_t_image a_t_mind a_t_aside a_t_text a_t_read a_t_comes a_t_begins a_t_latest a_t_move a_t_sort a_t_items a_t_cell a_t_carried t_isKept t_work t_kind t_letters t_at t_fault t_back t_waits t_miles t_loads t_bestRound t_bestPlace t_bestAdds t_regret t_z t_s)) (hl : lv_has ls 7 [(0, .ref a_t), (5, .int x5), (6, .int x6)]) : W p l e rm_X8_apart s m args below meth c H locs 0 0 (QI G below args s A r (w_X8_apart G a_t a_t_s a_t_image a_t_mind a_t_aside a_t_text a_t_read a_t_comes a_t_begins a_t_latest a_t_move a_t_sort a_t_items a_t_cell a_t_carried t_isKept t_work t_kind t_letters t_at t_fault t_back t_waits t_miles t_loads t_bestRound t_bestPlace t_bestAdds t_regret t_z t_s)) (F0 m 36 ls [.int y0]) := by
  unfold b_X8_apart_36 at hf
  have hx := C.1
  have hb := C.2.1
  have hown := C.2.2.2.2.1
  have hts := C.2.2.2.2.2.1
  have hN := C.2.2.2.2.2.2.2.2.2.2
  refine lv_aload_n (pc := 36) hx hb dX8_apart_36 rfl (lv_at hl 0 rfl) ?_
  refine x_get (pc := 37) (ci := 8) (T := TX8) (v := .ref a_t_s) C S 0 rfl rfl inlX8 0 (by decide) rfl qf_8_11 rfl dX8_apart_37 ?_
  refine lv_iconst (pc := 40) hx hb dX8_apart_40 ic_2 ?_
  refine x_iald (pc := 41) C S 1 rfl (vp_in_iff.mpr (by decide)) dX8_apart_41 ?_
  refine lv_if_ne (tgt := 49) (pc := 42) hx hb dX8_apart_42 (by decide) (fun c1 => ?_) (fun c1 => ?_)
  · have hf := ifn c1 hf
    refine lv_iload (pc := 49) hx hb dX8_apart_49 (lv_at hl 1 rfl) ?_
    refine lv_iload (pc := 51) hx hb dX8_apart_51 (lv_at hl 2 rfl) ?_
    refine x_max (pc := 53) C hl.1 qm_8_75 qs_max qn_Math qc_max (Nat.le_of_ble_eq_true rfl) (Nat.le_of_ble_eq_true rfl) dX8_apart_53 ?_
    refine lv_iadd (pc := 56) hx hb dX8_apart_56 ?_
    cases hf
    exact x_iret (pc := 57) C S dX8_apart_57
  · have hf := ifp c1 hf
    refine lv_iconst (pc := 45) hx hb dX8_apart_45 ic_0 ?_
    refine lv_goto (tgt := 56) (pc := 46) hx hb dX8_apart_46 (by decide) ?_
    refine lv_iadd (pc := 56) hx hb dX8_apart_56 ?_
    cases hf
    exact x_iret (pc := 57) C S dX8_apart_57
set_option maxRecDepth 100000 in
set_option maxHeartbeats 4000000 in
theorem c_X8_apart (l : Launch) (G : GE) (a_t a_t_s a_t_image a_t_mind a_t_aside a_t_text a_t_read a_t_comes a_t_begins a_t_latest a_t_move a_t_sort a_t_items a_t_cell a_t_carried : Nat) (t_isKept : Int32) (t_work : Int32) (t_kind : Int32) (t_letters : Int32) (t_at : Int32) (t_fault : Int32) (t_back : Int32) (t_waits : Int32) (t_miles : Int32) (t_loads : Int32) (t_bestRound : Int32) (t_bestPlace : Int32) (t_bestAdds : Int32) (t_regret : Int32) (t_z : Int32) (t_s : Nat → Int32) (x1 : Int32) (x2 : Int32) (x3 : Int32) (x4 : Int32) (r : Int32) (hf : f_X8_apart t_s x1 x2 x3 x4 = some r) : CI l G yX8_apart kw_X8_apart rm_X8_apart [.ref a_t, .int x1, .int x2, .int x3, .int x4] (w_X8_apart G a_t a_t_s a_t_image a_t_mind a_t_aside a_t_text a_t_read a_t_comes a_t_begins a_t_latest a_t_move a_t_sort a_t_items a_t_cell a_t_carried t_isKept t_work t_kind t_letters t_at t_fault t_back t_waits t_miles t_loads t_bestRound t_bestPlace t_bestAdds t_regret t_z t_s) r (w_X8_apart G a_t a_t_s a_t_image a_t_mind a_t_aside a_t_text a_t_read a_t_comes a_t_begins a_t_latest a_t_move a_t_sort a_t_items a_t_cell a_t_carried t_isKept t_work t_kind t_letters t_at t_fault t_back t_waits t_miles t_loads t_bestRound t_bestPlace t_bestAdds t_regret t_z t_s) := by
  refine en_I (cc := cX8_apart) (maxL := 7) (ret := (some .int)) (by decide +kernel) (Nat.le_of_ble_eq_true rfl) ?_
  intro p e s m args below meth c A ls C S hl
  have hl : lv_has ls 7 [(0, .ref a_t), (1, .int x1), (2, .int x2), (3, .int x3), (4, .int x4)] := hl
  have C : Cx p s m args meth c cX8_apart (some .int) 7 RX8 G A := C
  unfold f_X8_apart at hf
  have hx := C.1
  have hb := C.2.1
  have hown := C.2.2.2.2.1
  have hts := C.2.2.2.2.2.1
  have hN := C.2.2.2.2.2.2.2.2.2.2
  refine lv_iload_n (pc := 0) hx hb dX8_apart_0 rfl (lv_at hl 1 rfl) ?_
  refine lv_iload_n (pc := 1) hx hb dX8_apart_1 rfl (lv_at hl 3 rfl) ?_
  refine lv_isub (pc := 2) hx hb dX8_apart_2 ?_
  refine x_abs (pc := 3) C hl.1 qm_8_69 qs_abs qn_Math qc_abs (Nat.le_of_ble_eq_true rfl) (Nat.le_of_ble_eq_true rfl) dX8_apart_3 ?_
  refine lv_istore (pc := 6) (lv' := [(5, .int (mabs (x1 - x3))), (0, .ref a_t), (1, .int x1), (2, .int x2), (3, .int x3), (4, .int x4)]) hx hb dX8_apart_6 hl (by decide) rfl (fun ls hl => ?_)
  refine lv_iload_n (pc := 8) hx hb dX8_apart_8 rfl (lv_at hl 3 rfl) ?_
  refine lv_iload (pc := 9) hx hb dX8_apart_9 (lv_at hl 5 rfl) ?_
  refine lv_isub (pc := 11) hx hb dX8_apart_11 ?_
  refine x_abs (pc := 12) C hl.1 qm_8_69 qs_abs qn_Math qc_abs (Nat.le_of_ble_eq_true rfl) (Nat.le_of_ble_eq_true rfl) dX8_apart_12 ?_
  refine lv_istore (pc := 15) (lv' := [(6, .int (mabs (x2 - x4))), (5, .int (mabs (x1 - x3))), (0, .ref a_t), (1, .int x1), (2, .int x2), (3, .int x3), (4, .int x4)]) hx hb dX8_apart_15 hl (by decide) rfl (fun ls hl => ?_)
  refine lv_aload_n (pc := 17) hx hb dX8_apart_17 rfl (lv_at hl 2 rfl) ?_
  refine x_get (pc := 18) (ci := 8) (T := TX8) (v := .ref a_t_s) C S 0 rfl rfl inlX8 0 (by decide) rfl qf_8_11 rfl dX8_apart_18 ?_
  refine lv_iconst (pc := 21) hx hb dX8_apart_21 ic_2 ?_
  refine x_iald (pc := 22) C S 1 rfl (vp_in_iff.mpr (by decide)) dX8_apart_22 ?_
  refine lv_iconst (pc := 23) hx hb dX8_apart_23 ic_1 ?_
  refine lv_icmp_ne (tgt := 31) (pc := 24) hx hb dX8_apart_24 (by decide) (fun c1 => ?_) (fun c1 => ?_)
  · have hf := ifn c1 hf
    refine lv_iload (pc := 31) hx hb dX8_apart_31 (lv_at hl 1 rfl) ?_
    refine lv_iload (pc := 33) hx hb dX8_apart_33 (lv_at hl 0 rfl) ?_
    refine lv_iadd (pc := 35) hx hb dX8_apart_35 ?_
    exact k_X8_apart_36 C (t_isKept) (t_work) (t_kind) (t_letters) (t_at) (t_fault) (t_back) (t_waits) (t_miles) (t_loads) (t_bestRound) (t_bestPlace) (t_bestAdds) (t_regret) (t_z) (t_s) ((mabs (x1 - x3))) ((mabs (x2 - x4))) (((mabs (x1 - x3)) + (mabs (x2 - x4)))) hf S (lv_sub hl [2, 1, 0] rfl)
  · have hf := ifp c1 hf
    refine lv_iconst (pc := 27) hx hb dX8_apart_27 ic_0 ?_
    refine lv_goto (tgt := 36) (pc := 28) hx hb dX8_apart_28 (by decide) ?_
    exact k_X8_apart_36 C (t_isKept) (t_work) (t_kind) (t_letters) (t_at) (t_fault) (t_back) (t_waits) (t_miles) (t_loads) (t_bestRound) (t_bestPlace) (t_bestAdds) (t_regret) (t_z) (t_s) ((mabs (x1 - x3))) ((mabs (x2 - x4))) ((0 : Int32)) hf S (lv_sub hl [2, 1, 0] rfl)
end

abbrev rm_X8_fromDepot : Room := { frames := 2, cells := 0, slots := 0, locals := 50 }
abbrev kw_X8_fromDepot : Cond := .code yX8_fromDepot cX8_fromDepot 2 (some .int)
abbrev w_X8_fromDepot (G : GE) (a_t a_t_s a_t_image a_t_mind a_t_aside a_t_text a_t_read a_t_comes a_t_begins a_t_latest a_t_move a_t_sort a_t_items a_t_cell a_t_carried : Nat) (t_isKept : Int32) (t_work : Int32) (t_kind : Int32) (t_letters : Int32) (t_at : Int32) (t_fault : Int32) (t_back : Int32) (t_waits : Int32) (t_miles : Int32) (t_loads : Int32) (t_bestRound : Int32) (t_bestPlace : Int32) (t_bestAdds : Int32) (t_regret : Int32) (t_z : Int32) (t_s : Nat → Int32) : va_W := [(a_t, ob 8 [.ref a_t_s, .ref a_t_image, .ref a_t_mind, .ref a_t_aside, .int t_isKept, .int t_work, .int t_kind, .ref a_t_text, .ref a_t_read, .int t_letters, .int t_at, .int t_fault, .ref a_t_comes, .ref a_t_begins, .ref a_t_latest, .int t_back, .int t_waits, .int t_miles, .int t_loads, .int t_bestRound, .int t_bestPlace, .int t_bestAdds, .int t_regret, .ref a_t_move, .ref a_t_sort, .ref a_t_items, .ref a_t_cell, .ref a_t_carried, .int t_z]), (a_t_s, aI G 258 t_s)]
theorem u_X8_fromDepot_X8_stopAt_78 {s : State} {args : Array Value} (hts : ∀ w ∈ WU, w.before args s = true) : CallW rm_X8_fromDepot s args RX8 RX8 78 yX8_stopAt cX8_stopAt 3 (some .int) (kw_X8_stopAt :: WU) rm_X8_stopAt 0 0 2 := cwV 2 hts (gV qm_8_78 qi_X8_stopAt ql_X8_stopAt qn_8 qc_X8_stopAt) rfl rfl rfl (by decide +kernel) ⟨Nat.le_of_ble_eq_true rfl, Nat.le_of_ble_eq_true rfl⟩
theorem u_X8_fromDepot_X8_apart_81 {s : State} {args : Array Value} (hts : ∀ w ∈ WU, w.before args s = true) : CallW rm_X8_fromDepot s args RX8 RX8 81 yX8_apart cX8_apart 7 (some .int) (kw_X8_apart :: WU) rm_X8_apart 0 0 4 := cwV 4 hts (gV qm_8_81 qi_X8_apart ql_X8_apart qn_8 qc_X8_apart) rfl rfl rfl (by decide +kernel) ⟨Nat.le_of_ble_eq_true rfl, Nat.le_of_ble_eq_true rfl⟩
section
variable {p : Program} {l : Launch} {e : Env} {s : State} {m : MethodId} {args : Array Value} {below : List Frame} {meth : Method} {c : Code} {A : Nat → Prop} {G : GE} {a_t a_t_s a_t_image a_t_mind a_t_aside a_t_text a_t_read a_t_comes a_t_begins a_t_latest a_t_move a_t_sort a_t_items a_t_cell a_t_carried : Nat} {r : Int32}
set_option maxRecDepth 100000 in
set_option maxHeartbeats 4000000 in
theorem c_X8_fromDepot (l : Launch) (G : GE) (a_t a_t_s a_t_image a_t_mind a_t_aside a_t_text a_t_read a_t_comes a_t_begins a_t_latest a_t_move a_t_sort a_t_items a_t_cell a_t_carried : Nat) (t_isKept : Int32) (t_work : Int32) (t_kind : Int32) (t_letters : Int32) (t_at : Int32) (t_fault : Int32) (t_back : Int32) (t_waits : Int32) (t_miles : Int32) (t_loads : Int32) (t_bestRound : Int32) (t_bestPlace : Int32) (t_bestAdds : Int32) (t_regret : Int32) (t_z : Int32) (t_s : Nat → Int32) (x1 : Int32) (r : Int32) (hf : f_X8_fromDepot t_s x1 = some r) : CI l G yX8_fromDepot kw_X8_fromDepot rm_X8_fromDepot [.ref a_t, .int x1] (w_X8_fromDepot G a_t a_t_s a_t_image a_t_mind a_t_aside a_t_text a_t_read a_t_comes a_t_begins a_t_latest a_t_move a_t_sort a_t_items a_t_cell a_t_carried t_isKept t_work t_kind t_letters t_at t_fault t_back t_waits t_miles t_loads t_bestRound t_bestPlace t_bestAdds t_regret t_z t_s) r (w_X8_fromDepot G a_t a_t_s a_t_image a_t_mind a_t_aside a_t_text a_t_read a_t_comes a_t_begins a_t_latest a_t_move a_t_sort a_t_items a_t_cell a_t_carried t_isKept t_work t_kind t_letters t_at t_fault t_back t_waits t_miles t_loads t_bestRound t_bestPlace t_bestAdds t_regret t_z t_s) := by
  refine en_I (cc := cX8_fromDepot) (maxL := 2) (ret := (some .int)) (by decide +kernel) (Nat.le_of_ble_eq_true rfl) ?_
  intro p e s m args below meth c A ls C S hl
  have hl : lv_has ls 2 [(0, .ref a_t), (1, .int x1)] := hl
  have C : Cx p s m args meth c cX8_fromDepot (some .int) 2 RX8 G A := C
  unfold f_X8_fromDepot at hf
  have hx := C.1
  have hb := C.2.1
  have hown := C.2.2.2.2.1
  have hts := C.2.2.2.2.2.1
  have hN := C.2.2.2.2.2.2.2.2.2.2
  refine lv_aload_n (pc := 0) hx hb dX8_fromDepot_0 rfl (lv_at hl 0 rfl) ?_
  refine lv_aload_n (pc := 1) hx hb dX8_fromDepot_1 rfl (lv_at hl 0 rfl) ?_
  refine x_get (pc := 2) (ci := 8) (T := TX8) (v := .ref a_t_s) C S 0 rfl rfl inlX8 0 (by decide) rfl qf_8_11 rfl dX8_fromDepot_2 ?_
  refine lv_iconst (pc := 5) hx hb dX8_fromDepot_5 ic_0 ?_
  refine x_iald (pc := 6) C S 1 rfl (vp_in_iff.mpr (by decide)) dX8_fromDepot_6 ?_
  refine lv_aload_n (pc := 7) hx hb dX8_fromDepot_7 rfl (lv_at hl 0 rfl) ?_
  refine x_get (pc := 8) (ci := 8) (T := TX8) (v := .ref a_t_s) C S 0 rfl rfl inlX8 0 (by decide) rfl qf_8_11 rfl dX8_fromDepot_8 ?_
  refine lv_iconst (pc := 11) hx hb dX8_fromDepot_11 ic_1 ?_
  refine x_iald (pc := 12) C S 1 rfl (vp_in_iff.mpr (by decide)) dX8_fromDepot_12 ?_
  refine lv_aload_n (pc := 13) hx hb dX8_fromDepot_13 rfl (lv_at hl 0 rfl) ?_
  refine lv_iload_n (pc := 14) hx hb dX8_fromDepot_14 rfl (lv_at hl 1 rfl) ?_
  refine lv_iconst (pc := 15) hx hb dX8_fromDepot_15 ic_0 ?_
  obtain ⟨r1, hq1, hf⟩ := bd_e hf
  refine x_vI (pc := 16) (As := [.int x1, .int (0 : Int32)]) (rest := [.int (t_s (1 : Int32).toNatClampNeg), .int (t_s (0 : Int32).toNatClampNeg), .ref a_t]) (isC := [0, 1]) (ws' := (w_X8_fromDepot G a_t a_t_s a_t_image a_t_mind a_t_aside a_t_text a_t_read a_t_comes a_t_begins a_t_latest a_t_move a_t_sort a_t_items a_t_cell a_t_carried t_isKept t_work t_kind t_letters t_at t_fault t_back t_waits t_miles t_loads t_bestRound t_bestPlace t_bestAdds t_regret t_z t_s)) C S (c_X8_stopAt l G a_t a_t_s a_t_image a_t_mind a_t_aside a_t_text a_t_read a_t_comes a_t_begins a_t_latest a_t_move a_t_sort a_t_items a_t_cell a_t_carried t_isKept t_work t_kind t_letters t_at t_fault t_back t_waits t_miles t_loads t_bestRound t_bestPlace t_bestAdds t_regret t_z t_s x1 (0 : Int32) r1 hq1) (u_X8_fromDepot_X8_stopAt_78 hts) (ci := 8) rfl 0 rfl rfl (by decide +kernel) [some 0, some 1] (by decide +kernel) rfl rfl rfl hl.1 rfl (Nat.le_of_ble_eq_true rfl) dX8_fromDepot_16 (fun H locs S => ?_)
  refine lv_aload_n (pc := 19) hx hb dX8_fromDepot_19 rfl (lv_at hl 0 rfl) ?_
  refine lv_iload_n (pc := 20) hx hb dX8_fromDepot_20 rfl (lv_at hl 1 rfl) ?_
  refine lv_iconst (pc := 21) hx hb dX8_fromDepot_21 ic_1 ?_
  obtain ⟨r2, hq2, hf⟩ := bd_e hf
  refine x_vI (pc := 22) (As := [.int x1, .int (1 : Int32)]) (rest := [.int r1, .int (t_s (1 : Int32).toNatClampNeg), .int (t_s (0 : Int32).toNatClampNeg), .ref a_t]) (isC := [0, 1]) (ws' := (w_X8_fromDepot G a_t a_t_s a_t_image a_t_mind a_t_aside a_t_text a_t_read a_t_comes a_t_begins a_t_latest a_t_move a_t_sort a_t_items a_t_cell a_t_carried t_isKept t_work t_kind t_letters t_at t_fault t_back t_waits t_miles t_loads t_bestRound t_bestPlace t_bestAdds t_regret t_z t_s)) C S (c_X8_stopAt l G a_t a_t_s a_t_image a_t_mind a_t_aside a_t_text a_t_read a_t_comes a_t_begins a_t_latest a_t_move a_t_sort a_t_items a_t_cell a_t_carried t_isKept t_work t_kind t_letters t_at t_fault t_back t_waits t_miles t_loads t_bestRound t_bestPlace t_bestAdds t_regret t_z t_s x1 (1 : Int32) r2 hq2) (u_X8_fromDepot_X8_stopAt_78 hts) (ci := 8) rfl 0 rfl rfl (by decide +kernel) [some 0, some 1] (by decide +kernel) rfl rfl rfl hl.1 rfl (Nat.le_of_ble_eq_true rfl) dX8_fromDepot_22 (fun H locs S => ?_)
  obtain ⟨r3, hq3, hf⟩ := bd_e hf
  refine x_vI (pc := 25) (As := [.int (t_s (0 : Int32).toNatClampNeg), .int (t_s (1 : Int32).toNatClampNeg), .int r1, .int r2]) (rest := []) (isC := [0, 1]) (ws' := (w_X8_fromDepot G a_t a_t_s a_t_image a_t_mind a_t_aside a_t_text a_t_read a_t_comes a_t_begins a_t_latest a_t_move a_t_sort a_t_items a_t_cell a_t_carried t_isKept t_work t_kind t_letters t_at t_fault t_back t_waits t_miles t_loads t_bestRound t_bestPlace t_bestAdds t_regret t_z t_s)) C S (c_X8_apart l G a_t a_t_s a_t_image a_t_mind a_t_aside a_t_text a_t_read a_t_comes a_t_begins a_t_latest a_t_move a_t_sort a_t_items a_t_cell a_t_carried t_isKept t_work t_kind t_letters t_at t_fault t_back t_waits t_miles t_loads t_bestRound t_bestPlace t_bestAdds t_regret t_z t_s (t_s (0 : Int32).toNatClampNeg) (t_s (1 : Int32).toNatClampNeg) r1 r2 r3 hq3) (u_X8_fromDepot_X8_apart_81 hts) (ci := 8) rfl 0 rfl rfl (by decide +kernel) [some 0, some 1] (by decide +kernel) rfl rfl rfl hl.1 rfl (Nat.le_of_ble_eq_true rfl) dX8_fromDepot_25 (fun H locs S => ?_)
  cases hf
  exact x_iret (pc := 28) C S dX8_fromDepot_28
end

abbrev rm_X8_between : Room := { frames := 2, cells := 0, slots := 0, locals := 50 }
abbrev kw_X8_between : Cond := .code yX8_between cX8_between 3 (some .int)
abbrev w_X8_between (G : GE) (a_t a_t_s a_t_image a_t_mind a_t_aside a_t_text a_t_read a_t_comes a_t_begins a_t_latest a_t_move a_t_sort a_t_items a_t_cell a_t_carried : Nat) (t_isKept : Int32) (t_work : Int32) (t_kind : Int32) (t_letters : Int32) (t_at : Int32) (t_fault : Int32) (t_back : Int32) (t_waits : Int32) (t_miles : Int32) (t_loads : Int32) (t_bestRound : Int32) (t_bestPlace : Int32) (t_bestAdds : Int32) (t_regret : Int32) (t_z : Int32) (t_s : Nat → Int32) : va_W := [(a_t, ob 8 [.ref a_t_s, .ref a_t_image, .ref a_t_mind, .ref a_t_aside, .int t_isKept, .int t_work, .int t_kind, .ref a_t_text, .ref a_t_read, .int t_letters, .int t_at, .int t_fault, .ref a_t_comes, .ref a_t_begins, .ref a_t_latest, .int t_back, .int t_waits, .int t_miles, .int t_loads, .int t_bestRound, .int t_bestPlace, .int t_bestAdds, .int t_regret, .ref a_t_move, .ref a_t_sort, .ref a_t_items, .ref a_t_cell, .ref a_t_carried, .int t_z]), (a_t_s, aI G 258 t_s)]
theorem u_X8_between_X8_stopAt_78 {s : State} {args : Array Value} (hts : ∀ w ∈ WU, w.before args s = true) : CallW rm_X8_between s args RX8 RX8 78 yX8_stopAt cX8_stopAt 3 (some .int) (kw_X8_stopAt :: WU) rm_X8_stopAt 0 0 2 := cwV 2 hts (gV qm_8_78 qi_X8_stopAt ql_X8_stopAt qn_8 qc_X8_stopAt) rfl rfl rfl (by decide +kernel) ⟨Nat.le_of_ble_eq_true rfl, Nat.le_of_ble_eq_true rfl⟩
theorem u_X8_between_X8_apart_81 {s : State} {args : Array Value} (hts : ∀ w ∈ WU, w.before args s = true) : CallW rm_X8_between s args RX8 RX8 81 yX8_apart cX8_apart 7 (some .int) (kw_X8_apart :: WU) rm_X8_apart 0 0 4 := cwV 4 hts (gV qm_8_81 qi_X8_apart ql_X8_apart qn_8 qc_X8_apart) rfl rfl rfl (by decide +kernel) ⟨Nat.le_of_ble_eq_true rfl, Nat.le_of_ble_eq_true rfl⟩
section
variable {p : Program} {l : Launch} {e : Env} {s : State} {m : MethodId} {args : Array Value} {below : List Frame} {meth : Method} {c : Code} {A : Nat → Prop} {G : GE} {a_t a_t_s a_t_image a_t_mind a_t_aside a_t_text a_t_read a_t_comes a_t_begins a_t_latest a_t_move a_t_sort a_t_items a_t_cell a_t_carried : Nat} {r : Int32}
set_option maxRecDepth 100000 in
set_option maxHeartbeats 4000000 in
theorem c_X8_between (l : Launch) (G : GE) (a_t a_t_s a_t_image a_t_mind a_t_aside a_t_text a_t_read a_t_comes a_t_begins a_t_latest a_t_move a_t_sort a_t_items a_t_cell a_t_carried : Nat) (t_isKept : Int32) (t_work : Int32) (t_kind : Int32) (t_letters : Int32) (t_at : Int32) (t_fault : Int32) (t_back : Int32) (t_waits : Int32) (t_miles : Int32) (t_loads : Int32) (t_bestRound : Int32) (t_bestPlace : Int32) (t_bestAdds : Int32) (t_regret : Int32) (t_z : Int32) (t_s : Nat → Int32) (x1 : Int32) (x2 : Int32) (r : Int32) (hf : f_X8_between t_s x1 x2 = some r) : CI l G yX8_between kw_X8_between rm_X8_between [.ref a_t, .int x1, .int x2] (w_X8_between G a_t a_t_s a_t_image a_t_mind a_t_aside a_t_text a_t_read a_t_comes a_t_begins a_t_latest a_t_move a_t_sort a_t_items a_t_cell a_t_carried t_isKept t_work t_kind t_letters t_at t_fault t_back t_waits t_miles t_loads t_bestRound t_bestPlace t_bestAdds t_regret t_z t_s) r (w_X8_between G a_t a_t_s a_t_image a_t_mind a_t_aside a_t_text a_t_read a_t_comes a_t_begins a_t_latest a_t_move a_t_sort a_t_items a_t_cell a_t_carried t_isKept t_work t_kind t_letters t_at t_fault t_back t_waits t_miles t_loads t_bestRound t_bestPlace t_bestAdds t_regret t_z t_s) := by
  refine en_I (cc := cX8_between) (maxL := 3) (ret := (some .int)) (by decide +kernel) (Nat.le_of_ble_eq_true rfl) ?_
  intro p e s m args below meth c A ls C S hl
  have hl : lv_has ls 3 [(0, .ref a_t), (1, .int x1), (2, .int x2)] := hl
  have C : Cx p s m args meth c cX8_between (some .int) 3 RX8 G A := C
  unfold f_X8_between at hf
  have hx := C.1
  have hb := C.2.1
  have hown := C.2.2.2.2.1
  have hts := C.2.2.2.2.2.1
  have hN := C.2.2.2.2.2.2.2.2.2.2
  refine lv_aload_n (pc := 0) hx hb dX8_between_0 rfl (lv_at hl 0 rfl) ?_
  refine lv_aload_n (pc := 1) hx hb dX8_between_1 rfl (lv_at hl 0 rfl) ?_
  refine lv_iload_n (pc := 2) hx hb dX8_between_2 rfl (lv_at hl 1 rfl) ?_
  refine lv_iconst (pc := 3) hx hb dX8_between_3 ic_0 ?_
  obtain ⟨r1, hq1, hf⟩ := bd_e hf
  refine x_vI (pc := 4) (As := [.int x1, .int (0 : Int32)]) (rest := [.ref a_t]) (isC := [0, 1]) (ws' := (w_X8_between G a_t a_t_s a_t_image a_t_mind a_t_aside a_t_text a_t_read a_t_comes a_t_begins a_t_latest a_t_move a_t_sort a_t_items a_t_cell a_t_carried t_isKept t_work t_kind t_letters t_at t_fault t_back t_waits t_miles t_loads t_bestRound t_bestPlace t_bestAdds t_regret t_z t_s)) C S (c_X8_stopAt l G a_t a_t_s a_t_image a_t_mind a_t_aside a_t_text a_t_read a_t_comes a_t_begins a_t_latest a_t_move a_t_sort a_t_items a_t_cell a_t_carried t_isKept t_work t_kind t_letters t_at t_fault t_back t_waits t_miles t_loads t_bestRound t_bestPlace t_bestAdds t_regret t_z t_s x1 (0 : Int32) r1 hq1) (u_X8_between_X8_stopAt_78 hts) (ci := 8) rfl 0 rfl rfl (by decide +kernel) [some 0, some 1] (by decide +kernel) rfl rfl rfl hl.1 rfl (Nat.le_of_ble_eq_true rfl) dX8_between_4 (fun H locs S => ?_)
  refine lv_aload_n (pc := 7) hx hb dX8_between_7 rfl (lv_at hl 0 rfl) ?_
  refine lv_iload_n (pc := 8) hx hb dX8_between_8 rfl (lv_at hl 1 rfl) ?_
  refine lv_iconst (pc := 9) hx hb dX8_between_9 ic_1 ?_
  obtain ⟨r2, hq2, hf⟩ := bd_e hf
  refine x_vI (pc := 10) (As := [.int x1, .int (1 : Int32)]) (rest := [.int r1, .ref a_t]) (isC := [0, 1]) (ws' := (w_X8_between G a_t a_t_s a_t_image a_t_mind a_t_aside a_t_text a_t_read a_t_comes a_t_begins a_t_latest a_t_move a_t_sort a_t_items a_t_cell a_t_carried t_isKept t_work t_kind t_letters t_at t_fault t_back t_waits t_miles t_loads t_bestRound t_bestPlace t_bestAdds t_regret t_z t_s)) C S (c_X8_stopAt l G a_t a_t_s a_t_image a_t_mind a_t_aside a_t_text a_t_read a_t_comes a_t_begins a_t_latest a_t_move a_t_sort a_t_items a_t_cell a_t_carried t_isKept t_work t_kind t_letters t_at t_fault t_back t_waits t_miles t_loads t_bestRound t_bestPlace t_bestAdds t_regret t_z t_s x1 (1 : Int32) r2 hq2) (u_X8_between_X8_stopAt_78 hts) (ci := 8) rfl 0 rfl rfl (by decide +kernel) [some 0, some 1] (by decide +kernel) rfl rfl rfl hl.1 rfl (Nat.le_of_ble_eq_true rfl) dX8_between_10 (fun H locs S => ?_)
  refine lv_aload_n (pc := 13) hx hb dX8_between_13 rfl (lv_at hl 0 rfl) ?_
  refine lv_iload_n (pc := 14) hx hb dX8_between_14 rfl (lv_at hl 2 rfl) ?_
  refine lv_iconst (pc := 15) hx hb dX8_between_15 ic_0 ?_
  obtain ⟨r3, hq3, hf⟩ := bd_e hf
  refine x_vI (pc := 16) (As := [.int x2, .int (0 : Int32)]) (rest := [.int r2, .int r1, .ref a_t]) (isC := [0, 1]) (ws' := (w_X8_between G a_t a_t_s a_t_image a_t_mind a_t_aside a_t_text a_t_read a_t_comes a_t_begins a_t_latest a_t_move a_t_sort a_t_items a_t_cell a_t_carried t_isKept t_work t_kind t_letters t_at t_fault t_back t_waits t_miles t_loads t_bestRound t_bestPlace t_bestAdds t_regret t_z t_s)) C S (c_X8_stopAt l G a_t a_t_s a_t_image a_t_mind a_t_aside a_t_text a_t_read a_t_comes a_t_begins a_t_latest a_t_move a_t_sort a_t_items a_t_cell a_t_carried t_isKept t_work t_kind t_letters t_at t_fault t_back t_waits t_miles t_loads t_bestRound t_bestPlace t_bestAdds t_regret t_z t_s x2 (0 : Int32) r3 hq3) (u_X8_between_X8_stopAt_78 hts) (ci := 8) rfl 0 rfl rfl (by decide +kernel) [some 0, some 1] (by decide +kernel) rfl rfl rfl hl.1 rfl (Nat.le_of_ble_eq_true rfl) dX8_between_16 (fun H locs S => ?_)
  refine lv_aload_n (pc := 19) hx hb dX8_between_19 rfl (lv_at hl 0 rfl) ?_
  refine lv_iload_n (pc := 20) hx hb dX8_between_20 rfl (lv_at hl 2 rfl) ?_
  refine lv_iconst (pc := 21) hx hb dX8_between_21 ic_1 ?_
  obtain ⟨r4, hq4, hf⟩ := bd_e hf
  refine x_vI (pc := 22) (As := [.int x2, .int (1 : Int32)]) (rest := [.int r3, .int r2, .int r1, .ref a_t]) (isC := [0, 1]) (ws' := (w_X8_between G a_t a_t_s a_t_image a_t_mind a_t_aside a_t_text a_t_read a_t_comes a_t_begins a_t_latest a_t_move a_t_sort a_t_items a_t_cell a_t_carried t_isKept t_work t_kind t_letters t_at t_fault t_back t_waits t_miles t_loads t_bestRound t_bestPlace t_bestAdds t_regret t_z t_s)) C S (c_X8_stopAt l G a_t a_t_s a_t_image a_t_mind a_t_aside a_t_text a_t_read a_t_comes a_t_begins a_t_latest a_t_move a_t_sort a_t_items a_t_cell a_t_carried t_isKept t_work t_kind t_letters t_at t_fault t_back t_waits t_miles t_loads t_bestRound t_bestPlace t_bestAdds t_regret t_z t_s x2 (1 : Int32) r4 hq4) (u_X8_between_X8_stopAt_78 hts) (ci := 8) rfl 0 rfl rfl (by decide +kernel) [some 0, some 1] (by decide +kernel) rfl rfl rfl hl.1 rfl (Nat.le_of_ble_eq_true rfl) dX8_between_22 (fun H locs S => ?_)
  obtain ⟨r5, hq5, hf⟩ := bd_e hf
  refine x_vI (pc := 25) (As := [.int r1, .int r2, .int r3, .int r4]) (rest := []) (isC := [0, 1]) (ws' := (w_X8_between G a_t a_t_s a_t_image a_t_mind a_t_aside a_t_text a_t_read a_t_comes a_t_begins a_t_latest a_t_move a_t_sort a_t_items a_t_cell a_t_carried t_isKept t_work t_kind t_letters t_at t_fault t_back t_waits t_miles t_loads t_bestRound t_bestPlace t_bestAdds t_regret t_z t_s)) C S (c_X8_apart l G a_t a_t_s a_t_image a_t_mind a_t_aside a_t_text a_t_read a_t_comes a_t_begins a_t_latest a_t_move a_t_sort a_t_items a_t_cell a_t_carried t_isKept t_work t_kind t_letters t_at t_fault t_back t_waits t_miles t_loads t_bestRound t_bestPlace t_bestAdds t_regret t_z t_s r1 r2 r3 r4 r5 hq5) (u_X8_between_X8_apart_81 hts) (ci := 8) rfl 0 rfl rfl (by decide +kernel) [some 0, some 1] (by decide +kernel) rfl rfl rfl hl.1 rfl (Nat.le_of_ble_eq_true rfl) dX8_between_25 (fun H locs S => ?_)
  cases hf
  exact x_iret (pc := 28) C S dX8_between_28
end

abbrev rm_X8_milesOf : Room := { frames := 3, cells := 0, slots := 0, locals := 72 }
abbrev kw_X8_milesOf : Cond := .code yX8_milesOf cX8_milesOf 5 (some .int)
abbrev w_X8_milesOf (G : GE) (a_t a_t_s a_t_image a_t_mind a_t_aside a_t_text a_t_read a_t_comes a_t_begins a_t_latest a_t_move a_t_sort a_t_items a_t_cell a_t_carried : Nat) (t_isKept : Int32) (t_work : Int32) (t_kind : Int32) (t_letters : Int32) (t_at : Int32) (t_fault : Int32) (t_back : Int32) (t_waits : Int32) (t_miles : Int32) (t_loads : Int32) (t_bestRound : Int32) (t_bestPlace : Int32) (t_bestAdds : Int32) (t_regret : Int32) (t_z : Int32) (t_s : Nat → Int32) : va_W := [(a_t, ob 8 [.ref a_t_s, .ref a_t_image, .ref a_t_mind, .ref a_t_aside, .int t_isKept, .int t_work, .int t_kind, .ref a_t_text, .ref a_t_read, .int t_letters, .int t_at, .int t_fault, .ref a_t_comes, .ref a_t_begins, .ref a_t_latest, .int t_back, .int t_waits, .int t_miles, .int t_loads, .int t_bestRound, .int t_bestPlace, .int t_bestAdds, .int t_regret, .ref a_t_move, .ref a_t_sort, .ref a_t_items, .ref a_t_cell, .ref a_t_carried, .int t_z]), (a_t_s, aI G 258 t_s)]
theorem u_X8_milesOf_X8_roundAt_59 {s : State} {args : Array Value} (hts : ∀ w ∈ WU, w.before args s = true) : CallW rm_X8_milesOf s args RX8 RX8 59 yX8_roundAt cX8_roundAt 3 (some .int) (kw_X8_roundAt :: WU) rm_X8_roundAt 0 0 2 := cwV 2 hts (gV qm_8_59 qi_X8_roundAt ql_X8_roundAt qn_8 qc_X8_roundAt) rfl rfl rfl (by decide +kernel) ⟨Nat.le_of_ble_eq_true rfl, Nat.le_of_ble_eq_true rfl⟩
theorem u_X8_milesOf_X8_inRow_63 {s : State} {args : Array Value} (hts : ∀ w ∈ WU, w.before args s = true) : CallW rm_X8_milesOf s args RX8 RX8 63 yX8_inRow cX8_inRow 3 (some .int) (kw_X8_inRow :: WU) rm_X8_inRow 0 0 2 := cwV 2 hts (gV qm_8_63 qi_X8_inRow ql_X8_inRow qn_8 qc_X8_inRow) rfl rfl rfl (by decide +kernel) ⟨Nat.le_of_ble_eq_true rfl, Nat.le_of_ble_eq_true rfl⟩
theorem u_X8_milesOf_X8_fromDepot_85 {s : State} {args : Array Value} (hts : ∀ w ∈ WU, w.before args s = true) : CallW rm_X8_milesOf s args RX8 RX8 85 yX8_fromDepot cX8_fromDepot 2 (some .int) (kw_X8_fromDepot :: WU) rm_X8_fromDepot 0 0 1 := cwV 1 hts (gV qm_8_85 qi_X8_fromDepot ql_X8_fromDepot qn_8 qc_X8_fromDepot) rfl rfl rfl (by decide +kernel) ⟨Nat.le_of_ble_eq_true rfl, Nat.le_of_ble_eq_true rfl⟩
theorem u_X8_milesOf_X8_between_88 {s : State} {args : Array Value} (hts : ∀ w ∈ WU, w.before args s = true) : CallW rm_X8_milesOf s args RX8 RX8 88 yX8_between cX8_between 3 (some .int) (kw_X8_between :: WU) rm_X8_between 0 0 2 := cwV 2 hts (gV qm_8_88 qi_X8_between ql_X8_between qn_8 qc_X8_between) rfl rfl rfl (by decide +kernel) ⟨Nat.le_of_ble_eq_true rfl, Nat.le_of_ble_eq_true rfl⟩
section
variable {p : Program} {l : Launch} {e : Env} {s : State} {m : MethodId} {args : Array Value} {below : List Frame} {meth : Method} {c : Code} {A : Nat → Prop} {G : GE} {a_t a_t_s a_t_image a_t_mind a_t_aside a_t_text a_t_read a_t_comes a_t_begins a_t_latest a_t_move a_t_sort a_t_items a_t_cell a_t_carried : Nat} {r : Int32}
set_option maxRecDepth 100000 in
set_option maxHeartbeats 4000000 in
theorem k_X8_milesOf_40 (C : Cx p s m args meth c cX8_milesOf (some .int) 5 RX8 G A) (t_isKept : Int32) (t_work : Int32) (t_kind : Int32) (t_letters : Int32) (t_at : Int32) (t_fault : Int32) (t_back : Int32) (t_waits : Int32) (t_miles : Int32) (t_loads : Int32) (t_bestRound : Int32) (t_bestPlace : Int32) (t_bestAdds : Int32) (t_regret : Int32) (t_z : Int32) (t_s : Nat → Int32) (x1 : Int32) (x2 : Int32) (x3 : Int32) (x4 : Int32) (k40 : Int32 × Int32 → Option (Int32)) (hk40 : ∀ {H : Heap} {locs : List Loc} {ls : Array Slot} (x3' : Int32) (x4' : Int32), k40 (x3', x4') = some r → St G A s.heap H locs (w_X8_milesOf G a_t a_t_s a_t_image a_t_mind a_t_aside a_t_text a_t_read a_t_comes a_t_begins a_t_latest a_t_move a_t_sort a_t_items a_t_cell a_t_carried t_isKept t_work t_kind t_letters t_at t_fault t_back t_waits t_miles t_loads t_bestRound t_bestPlace t_bestAdds t_regret t_z t_s) → lv_has ls 5 [(0, .ref a_t), (1, .int x1), (2, .int x2), (3, .int x3'), (4, .int x4')] → W p l e rm_X8_milesOf s m args below meth c H locs 0 0 (QI G below args s A r (w_X8_milesOf G a_t a_t_s a_t_image a_t_mind a_t_aside a_t_text a_t_read a_t_comes a_t_begins a_t_latest a_t_move a_t_sort a_t_items a_t_cell a_t_carried t_isKept t_work t_kind t_letters t_at t_fault t_back t_waits t_miles t_loads t_bestRound t_bestPlace t_bestAdds t_regret t_z t_s)) (F0 m 40 ls [])) {H : Heap} {locs : List Loc} {ls : Array Slot} (hf : b_X8_milesOf_40 x1 x2 t_s k40 x3 x4 = some r) (S : St G A s.heap H locs (w_X8_milesOf G a_t a_t_s a_t_image a_t_mind a_t_aside a_t_text a_t_read a_t_comes a_t_begins a_t_latest a_t_move a_t_sort a_t_items a_t_cell a_t_carried t_isKept t_work t_kind t_letters t_at t_fault t_back t_waits t_miles t_loads t_bestRound t_bestPlace t_bestAdds t_regret t_z t_s)) (hl : lv_has ls 5 [(0, .ref a_t), (1, .int x1), (2, .int x2), (3, .int x3), (4, .int x4)]) : W p l e rm_X8_milesOf s m args below meth c H locs 0 0 (QI G below args s A r (w_X8_milesOf G a_t a_t_s a_t_image a_t_mind a_t_aside a_t_text a_t_read a_t_comes a_t_begins a_t_latest a_t_move a_t_sort a_t_items a_t_cell a_t_carried t_isKept t_work t_kind t_letters t_at t_fault t_back t_waits t_miles t_loads t_bestRound t_bestPlace t_bestAdds t_regret t_z t_s)) (F0 m 40 ls []) := by
  unfold b_X8_milesOf_40 at hf
  have hx := C.1
  have hb := C.2.1
  have hown := C.2.2.2.2.1
  have hts := C.2.2.2.2.2.1
  have hN := C.2.2.2.2.2.2.2.2.2.2
  refine lv_iload (pc := 40) hx hb dX8_milesOf_40 (lv_at hl 4 rfl) ?_
  refine lv_iload_n (pc := 42) hx hb dX8_milesOf_42 rfl (lv_at hl 2 rfl) ?_
  refine lv_icmp_ge (tgt := 75) (pc := 43) hx hb dX8_milesOf_43 (by decide) (fun c1 => ?_) (fun c1 => ?_)
  · have hf := ifp c1 hf
    refine lv_iload_n (pc := 75) hx hb dX8_milesOf_75 rfl (lv_at hl 3 rfl) ?_
    cases hf
    exact x_iret (pc := 76) C S dX8_milesOf_76
  · have hf := ifn c1 hf
    refine lv_iload_n (pc := 46) hx hb dX8_milesOf_46 rfl (lv_at hl 3 rfl) ?_
    refine lv_aload_n (pc := 47) hx hb dX8_milesOf_47 rfl (lv_at hl 0 rfl) ?_
    refine lv_aload_n (pc := 48) hx hb dX8_milesOf_48 rfl (lv_at hl 0 rfl) ?_
    refine lv_iload_n (pc := 49) hx hb dX8_milesOf_49 rfl (lv_at hl 1 rfl) ?_
    refine lv_iload (pc := 50) hx hb dX8_milesOf_50 (lv_at hl 4 rfl) ?_
    refine lv_iconst (pc := 52) hx hb dX8_milesOf_52 ic_1 ?_
    refine lv_isub (pc := 53) hx hb dX8_milesOf_53 ?_
    obtain ⟨r2, hq2, hf⟩ := bd_e hf
    refine x_vI (pc := 54) (As := [.int x1, .int (x4 - (1 : Int32))]) (rest := [.ref a_t, .int x3]) (isC := [0, 1]) (ws' := (w_X8_milesOf G a_t a_t_s a_t_image a_t_mind a_t_aside a_t_text a_t_read a_t_comes a_t_begins a_t_latest a_t_move a_t_sort a_t_items a_t_cell a_t_carried t_isKept t_work t_kind t_letters t_at t_fault t_back t_waits t_miles t_loads t_bestRound t_bestPlace t_bestAdds t_regret t_z t_s)) C S (c_X8_inRow l G a_t a_t_s a_t_image a_t_mind a_t_aside a_t_text a_t_read a_t_comes a_t_begins a_t_latest a_t_move a_t_sort a_t_items a_t_cell a_t_carried t_isKept t_work t_kind t_letters t_at t_fault t_back t_waits t_miles t_loads t_bestRound t_bestPlace t_bestAdds t_regret t_z t_s x1 (x4 - (1 : Int32)) r2 hq2) (u_X8_milesOf_X8_inRow_63 hts) (ci := 8) rfl 0 rfl rfl (by decide +kernel) [some 0, some 1] (by decide +kernel) rfl rfl rfl hl.1 rfl (Nat.le_of_ble_eq_true rfl) dX8_milesOf_54 (fun H locs S => ?_)
    refine lv_aload_n (pc := 57) hx hb dX8_milesOf_57 rfl (lv_at hl 0 rfl) ?_
    refine lv_iload_n (pc := 58) hx hb dX8_milesOf_58 rfl (lv_at hl 1 rfl) ?_
    refine lv_iload (pc := 59) hx hb dX8_milesOf_59 (lv_at hl 4 rfl) ?_
    obtain ⟨r3, hq3, hf⟩ := bd_e hf
    refine x_vI (pc := 61) (As := [.int x1, .int x4]) (rest := [.int r2, .ref a_t, .int x3]) (isC := [0, 1]) (ws' := (w_X8_milesOf G a_t a_t_s a_t_image a_t_mind a_t_aside a_t_text a_t_read a_t_comes a_t_begins a_t_latest a_t_move a_t_sort a_t_items a_t_cell a_t_carried t_isKept t_work t_kind t_letters t_at t_fault t_back t_waits t_miles t_loads t_bestRound t_bestPlace t_bestAdds t_regret t_z t_s)) C S (c_X8_inRow l G a_t a_t_s a_t_image a_t_mind a_t_aside a_t_text a_t_read a_t_comes a_t_begins a_t_latest a_t_move a_t_sort a_t_items a_t_cell a_t_carried t_isKept t_work t_kind t_letters t_at t_fault t_back t_waits t_miles t_loads t_bestRound t_bestPlace t_bestAdds t_regret t_z t_s x1 x4 r3 hq3) (u_X8_milesOf_X8_inRow_63 hts) (ci := 8) rfl 0 rfl rfl (by decide +kernel) [some 0, some 1] (by decide +kernel) rfl rfl rfl hl.1 rfl (Nat.le_of_ble_eq_true rfl) dX8_milesOf_61 (fun H locs S => ?_)
    obtain ⟨r4, hq4, hf⟩ := bd_e hf
    refine x_vI (pc := 64) (As := [.int r2, .int r3]) (rest := [.int x3]) (isC := [0, 1]) (ws' := (w_X8_milesOf G a_t a_t_s a_t_image a_t_mind a_t_aside a_t_text a_t_read a_t_comes a_t_begins a_t_latest a_t_move a_t_sort a_t_items a_t_cell a_t_carried t_isKept t_work t_kind t_letters t_at t_fault t_back t_waits t_miles t_loads t_bestRound t_bestPlace t_bestAdds t_regret t_z t_s)) C S (c_X8_between l G a_t a_t_s a_t_image a_t_mind a_t_aside a_t_text a_t_read a_t_comes a_t_begins a_t_latest a_t_move a_t_sort a_t_items a_t_cell a_t_carried t_isKept t_work t_kind t_letters t_at t_fault t_back t_waits t_miles t_loads t_bestRound t_bestPlace t_bestAdds t_regret t_z t_s r2 r3 r4 hq4) (u_X8_milesOf_X8_between_88 hts) (ci := 8) rfl 0 rfl rfl (by decide +kernel) [some 0, some 1] (by decide +kernel) rfl rfl rfl hl.1 rfl (Nat.le_of_ble_eq_true rfl) dX8_milesOf_64 (fun H locs S => ?_)
    refine lv_iadd (pc := 67) hx hb dX8_milesOf_67 ?_
    refine lv_istore_n (pc := 68) (lv' := [(3, .int (x3 + r4)), (0, .ref a_t), (1, .int x1), (2, .int x2), (4, .int x4)]) hx hb dX8_milesOf_68 rfl hl (by decide) rfl (fun ls hl => ?_)
    refine lv_iinc (pc := 69) (v := (x4 + (1 : Int32))) (lv' := [(4, .int (x4 + (1 : Int32))), (3, .int (x3 + r4)), (0, .ref a_t), (1, .int x1), (2, .int x2)]) hx hb dX8_milesOf_69 hl (k := 4) rfl (congrArg (fun z => x4 + z) ic_1) (by decide) rfl (fun ls hl => ?_)
    refine lv_goto (tgt := 40) (pc := 72) hx hb dX8_milesOf_72 (by decide) ?_
    exact hk40 ((x3 + r4)) ((x4 + (1 : Int32)))  hf S (lv_sub hl [2, 3, 4, 1, 0] rfl)
set_option maxRecDepth 100000 in
set_option maxHeartbeats 4000000 in
theorem h_X8_milesOf_40 (C : Cx p s m args meth c cX8_milesOf (some .int) 5 RX8 G A) (t_isKept : Int32) (t_work : Int32) (t_kind : Int32) (t_letters : Int32) (t_at : Int32) (t_fault : Int32) (t_back : Int32) (t_waits : Int32) (t_miles : Int32) (t_loads : Int32) (t_bestRound : Int32) (t_bestPlace : Int32) (t_bestAdds : Int32) (t_regret : Int32) (t_z : Int32) (t_s : Nat → Int32) (x1 : Int32) (x2 : Int32) : ∀ (n : Nat) (x3 : Int32) (x4 : Int32) {H : Heap} {locs : List Loc} {ls : Array Slot} (hf : lp (fun k x => b_X8_milesOf_40 x1 x2 t_s k x.1 x.2) n (x3, x4) = some r) (S : St G A s.heap H locs (w_X8_milesOf G a_t a_t_s a_t_image a_t_mind a_t_aside a_t_text a_t_read a_t_comes a_t_begins a_t_latest a_t_move a_t_sort a_t_items a_t_cell a_t_carried t_isKept t_work t_kind t_letters t_at t_fault t_back t_waits t_miles t_loads t_bestRound t_bestPlace t_bestAdds t_regret t_z t_s)) (hl : lv_has ls 5 [(0, .ref a_t), (1, .int x1), (2, .int x2), (3, .int x3), (4, .int x4)]), W p l e rm_X8_milesOf s m args below meth c H locs 0 0 (QI G below args s A r (w_X8_milesOf G a_t a_t_s a_t_image a_t_mind a_t_aside a_t_text a_t_read a_t_comes a_t_begins a_t_latest a_t_move a_t_sort a_t_items a_t_cell a_t_carried t_isKept t_work t_kind t_letters t_at t_fault t_back t_waits t_miles t_loads t_bestRound t_bestPlace t_bestAdds t_regret t_z t_s)) (F0 m 40 ls []) := by
  intro n
  induction n with
  | zero =>
    intro x3 x4  H locs ls hf
    cases hf
  | succ n ih =>
    intro x3 x4  H locs ls hf S hl
    have hf : b_X8_milesOf_40 x1 x2 t_s (lp (fun k x => b_X8_milesOf_40 x1 x2 t_s k x.1 x.2) n) x3 x4 = some r := hf
    exact k_X8_milesOf_40 C t_isKept t_work t_kind t_letters t_at t_fault t_back t_waits t_miles t_loads t_bestRound t_bestPlace t_bestAdds t_regret t_z t_s x1 x2 x3 x4  (lp (fun k x => b_X8_milesOf_40 x1 x2 t_s k x.1 x.2) n) (fun x3' x4'  h S hl => ih x3' x4'  h S hl) hf S hl
set_option maxRecDepth 100000 in
set_option maxHeartbeats 4000000 in
theorem c_X8_milesOf (l : Launch) (G : GE) (a_t a_t_s a_t_image a_t_mind a_t_aside a_t_text a_t_read a_t_comes a_t_begins a_t_latest a_t_move a_t_sort a_t_items a_t_cell a_t_carried : Nat) (t_isKept : Int32) (t_work : Int32) (t_kind : Int32) (t_letters : Int32) (t_at : Int32) (t_fault : Int32) (t_back : Int32) (t_waits : Int32) (t_miles : Int32) (t_loads : Int32) (t_bestRound : Int32) (t_bestPlace : Int32) (t_bestAdds : Int32) (t_regret : Int32) (t_z : Int32) (t_s : Nat → Int32) (x1 : Int32) (r : Int32) (hf : f_X8_milesOf t_s x1 = some r) : CI l G yX8_milesOf kw_X8_milesOf rm_X8_milesOf [.ref a_t, .int x1] (w_X8_milesOf G a_t a_t_s a_t_image a_t_mind a_t_aside a_t_text a_t_read a_t_comes a_t_begins a_t_latest a_t_move a_t_sort a_t_items a_t_cell a_t_carried t_isKept t_work t_kind t_letters t_at t_fault t_back t_waits t_miles t_loads t_bestRound t_bestPlace t_bestAdds t_regret t_z t_s) r (w_X8_milesOf G a_t a_t_s a_t_image a_t_mind a_t_aside a_t_text a_t_read a_t_comes a_t_begins a_t_latest a_t_move a_t_sort a_t_items a_t_cell a_t_carried t_isKept t_work t_kind t_letters t_at t_fault t_back t_waits t_miles t_loads t_bestRound t_bestPlace t_bestAdds t_regret t_z t_s) := by
  refine en_I (cc := cX8_milesOf) (maxL := 5) (ret := (some .int)) (by decide +kernel) (Nat.le_of_ble_eq_true rfl) ?_
  intro p e s m args below meth c A ls C S hl
  have hl : lv_has ls 5 [(0, .ref a_t), (1, .int x1)] := hl
  have C : Cx p s m args meth c cX8_milesOf (some .int) 5 RX8 G A := C
  unfold f_X8_milesOf at hf
  have hx := C.1
  have hb := C.2.1
  have hown := C.2.2.2.2.1
  have hts := C.2.2.2.2.2.1
  have hN := C.2.2.2.2.2.2.2.2.2.2
  refine lv_aload_n (pc := 0) hx hb dX8_milesOf_0 rfl (lv_at hl 0 rfl) ?_
  refine lv_iload_n (pc := 1) hx hb dX8_milesOf_1 rfl (lv_at hl 1 rfl) ?_
  refine lv_iconst (pc := 2) hx hb dX8_milesOf_2 ic_3 ?_
  obtain ⟨r1, hq1, hf⟩ := bd_e hf
  refine x_vI (pc := 3) (As := [.int x1, .int (3 : Int32)]) (rest := []) (isC := [0, 1]) (ws' := (w_X8_milesOf G a_t a_t_s a_t_image a_t_mind a_t_aside a_t_text a_t_read a_t_comes a_t_begins a_t_latest a_t_move a_t_sort a_t_items a_t_cell a_t_carried t_isKept t_work t_kind t_letters t_at t_fault t_back t_waits t_miles t_loads t_bestRound t_bestPlace t_bestAdds t_regret t_z t_s)) C S (c_X8_roundAt l G a_t a_t_s a_t_image a_t_mind a_t_aside a_t_text a_t_read a_t_comes a_t_begins a_t_latest a_t_move a_t_sort a_t_items a_t_cell a_t_carried t_isKept t_work t_kind t_letters t_at t_fault t_back t_waits t_miles t_loads t_bestRound t_bestPlace t_bestAdds t_regret t_z t_s x1 (3 : Int32) r1 hq1) (u_X8_milesOf_X8_roundAt_59 hts) (ci := 8) rfl 0 rfl rfl (by decide +kernel) [some 0, some 1] (by decide +kernel) rfl rfl rfl hl.1 rfl (Nat.le_of_ble_eq_true rfl) dX8_milesOf_3 (fun H locs S => ?_)
  refine lv_istore_n (pc := 6) (lv' := [(2, .int r1), (0, .ref a_t), (1, .int x1)]) hx hb dX8_milesOf_6 rfl hl (by decide) rfl (fun ls hl => ?_)
  refine lv_iload_n (pc := 7) hx hb dX8_milesOf_7 rfl (lv_at hl 0 rfl) ?_
  refine lv_if_ne (tgt := 13) (pc := 8) hx hb dX8_milesOf_8 (by decide) (fun c2 => ?_) (fun c2 => ?_)
  · have hf := ifn c2 hf
    refine lv_aload_n (pc := 13) hx hb dX8_milesOf_13 rfl (lv_at hl 1 rfl) ?_
    refine lv_aload_n (pc := 14) hx hb dX8_milesOf_14 rfl (lv_at hl 1 rfl) ?_
    refine lv_iload_n (pc := 15) hx hb dX8_milesOf_15 rfl (lv_at hl 2 rfl) ?_
    refine lv_iconst (pc := 16) hx hb dX8_milesOf_16 ic_0 ?_
    obtain ⟨r3, hq3, hf⟩ := bd_e hf
    refine x_vI (pc := 17) (As := [.int x1, .int (0 : Int32)]) (rest := [.ref a_t]) (isC := [0, 1]) (ws' := (w_X8_milesOf G a_t a_t_s a_t_image a_t_mind a_t_aside a_t_text a_t_read a_t_comes a_t_begins a_t_latest a_t_move a_t_sort a_t_items a_t_cell a_t_carried t_isKept t_work t_kind t_letters t_at t_fault t_back t_waits t_miles t_loads t_bestRound t_bestPlace t_bestAdds t_regret t_z t_s)) C S (c_X8_inRow l G a_t a_t_s a_t_image a_t_mind a_t_aside a_t_text a_t_read a_t_comes a_t_begins a_t_latest a_t_move a_t_sort a_t_items a_t_cell a_t_carried t_isKept t_work t_kind t_letters t_at t_fault t_back t_waits t_miles t_loads t_bestRound t_bestPlace t_bestAdds t_regret t_z t_s x1 (0 : Int32) r3 hq3) (u_X8_milesOf_X8_inRow_63 hts) (ci := 8) rfl 0 rfl rfl (by decide +kernel) [some 0, some 1] (by decide +kernel) rfl rfl rfl hl.1 rfl (Nat.le_of_ble_eq_true rfl) dX8_milesOf_17 (fun H locs S => ?_)
    obtain ⟨r4, hq4, hf⟩ := bd_e hf
    refine x_vI (pc := 20) (As := [.int r3]) (rest := []) (isC := [0, 1]) (ws' := (w_X8_milesOf G a_t a_t_s a_t_image a_t_mind a_t_aside a_t_text a_t_read a_t_comes a_t_begins a_t_latest a_t_move a_t_sort a_t_items a_t_cell a_t_carried t_isKept t_work t_kind t_letters t_at t_fault t_back t_waits t_miles t_loads t_bestRound t_bestPlace t_bestAdds t_regret t_z t_s)) C S (c_X8_fromDepot l G a_t a_t_s a_t_image a_t_mind a_t_aside a_t_text a_t_read a_t_comes a_t_begins a_t_latest a_t_move a_t_sort a_t_items a_t_cell a_t_carried t_isKept t_work t_kind t_letters t_at t_fault t_back t_waits t_miles t_loads t_bestRound t_bestPlace t_bestAdds t_regret t_z t_s r3 r4 hq4) (u_X8_milesOf_X8_fromDepot_85 hts) (ci := 8) rfl 0 rfl rfl (by decide +kernel) [some 0, some 1] (by decide +kernel) rfl rfl rfl hl.1 rfl (Nat.le_of_ble_eq_true rfl) dX8_milesOf_20 (fun H locs S => ?_)
    refine lv_aload_n (pc := 23) hx hb dX8_milesOf_23 rfl (lv_at hl 1 rfl) ?_
    refine lv_aload_n (pc := 24) hx hb dX8_milesOf_24 rfl (lv_at hl 1 rfl) ?_
    refine lv_iload_n (pc := 25) hx hb dX8_milesOf_25 rfl (lv_at hl 2 rfl) ?_
    refine lv_iload_n (pc := 26) hx hb dX8_milesOf_26 rfl (lv_at hl 0 rfl) ?_
    refine lv_iconst (pc := 27) hx hb dX8_milesOf_27 ic_1 ?_
    refine lv_isub (pc := 28) hx hb dX8_milesOf_28 ?_
    obtain ⟨r5, hq5, hf⟩ := bd_e hf
    refine x_vI (pc := 29) (As := [.int x1, .int (r1 - (1 : Int32))]) (rest := [.ref a_t, .int r4]) (isC := [0, 1]) (ws' := (w_X8_milesOf G a_t a_t_s a_t_image a_t_mind a_t_aside a_t_text a_t_read a_t_comes a_t_begins a_t_latest a_t_move a_t_sort a_t_items a_t_cell a_t_carried t_isKept t_work t_kind t_letters t_at t_fault t_back t_waits t_miles t_loads t_bestRound t_bestPlace t_bestAdds t_regret t_z t_s)) C S (c_X8_inRow l G a_t a_t_s a_t_image a_t_mind a_t_aside a_t_text a_t_read a_t_comes a_t_begins a_t_latest a_t_move a_t_sort a_t_items a_t_cell a_t_carried t_isKept t_work t_kind t_letters t_at t_fault t_back t_waits t_miles t_loads t_bestRound t_bestPlace t_bestAdds t_regret t_z t_s x1 (r1 - (1 : Int32)) r5 hq5) (u_X8_milesOf_X8_inRow_63 hts) (ci := 8) rfl 0 rfl rfl (by decide +kernel) [some 0, some 1] (by decide +kernel) rfl rfl rfl hl.1 rfl (Nat.le_of_ble_eq_true rfl) dX8_milesOf_29 (fun H locs S => ?_)
    obtain ⟨r6, hq6, hf⟩ := bd_e hf
    refine x_vI (pc := 32) (As := [.int r5]) (rest := [.int r4]) (isC := [0, 1]) (ws' := (w_X8_milesOf G a_t a_t_s a_t_image a_t_mind a_t_aside a_t_text a_t_read a_t_comes a_t_begins a_t_latest a_t_move a_t_sort a_t_items a_t_cell a_t_carried t_isKept t_work t_kind t_letters t_at t_fault t_back t_waits t_miles t_loads t_bestRound t_bestPlace t_bestAdds t_regret t_z t_s)) C S (c_X8_fromDepot l G a_t a_t_s a_t_image a_t_mind a_t_aside a_t_text a_t_read a_t_comes a_t_begins a_t_latest a_t_move a_t_sort a_t_items a_t_cell a_t_carried t_isKept t_work t_kind t_letters t_at t_fault t_back t_waits t_miles t_loads t_bestRound t_bestPlace t_bestAdds t_regret t_z t_s r5 r6 hq6) (u_X8_milesOf_X8_fromDepot_85 hts) (ci := 8) rfl 0 rfl rfl (by decide +kernel) [some 0, some 1] (by decide +kernel) rfl rfl rfl hl.1 rfl (Nat.le_of_ble_eq_true rfl) dX8_milesOf_32 (fun H locs S => ?_)
    refine lv_iadd (pc := 35) hx hb dX8_milesOf_35 ?_
    refine lv_istore_n (pc := 36) (lv' := [(3, .int (r4 + r6)), (2, .int r1), (0, .ref a_t), (1, .int x1)]) hx hb dX8_milesOf_36 rfl hl (by decide) rfl (fun ls hl => ?_)
    refine lv_iconst (pc := 37) hx hb dX8_milesOf_37 ic_1 ?_
    refine lv_istore (pc := 38) (lv' := [(4, .int (1 : Int32)), (3, .int (r4 + r6)), (2, .int r1), (0, .ref a_t), (1, .int x1)]) hx hb dX8_milesOf_38 hl (by decide) rfl (fun ls hl => ?_)
    exact h_X8_milesOf_40 C (t_isKept) (t_work) (t_kind) (t_letters) (t_at) (t_fault) (t_back) (t_waits) (t_miles) (t_loads) (t_bestRound) (t_bestPlace) (t_bestAdds) (t_regret) (t_z) (t_s) (x1) (r1) fu ((r4 + r6)) ((1 : Int32)) hf S (lv_sub hl [3, 4, 2, 1, 0] rfl)
  · have hf := ifp c2 hf
    refine lv_iconst (pc := 11) hx hb dX8_milesOf_11 ic_0 ?_
    cases hf
    exact x_iret (pc := 12) C S dX8_milesOf_12
end

abbrev rm_X8_inserts : Room := { frames := 0, cells := 0, slots := 0, locals := 0 }
abbrev kw_X8_inserts : Cond := .code yX8_inserts cX8_inserts 6 none
abbrev w_X8_inserts (G : GE) (a_t a_t_s a_t_image a_t_mind a_t_aside a_t_text a_t_read a_t_comes a_t_begins a_t_latest a_t_move a_t_sort a_t_items a_t_cell a_t_carried : Nat) (t_isKept : Int32) (t_work : Int32) (t_kind : Int32) (t_letters : Int32) (t_at : Int32) (t_fault : Int32) (t_back : Int32) (t_waits : Int32) (t_miles : Int32) (t_loads : Int32) (t_bestRound : Int32) (t_bestPlace : Int32) (t_bestAdds : Int32) (t_regret : Int32) (t_z : Int32) (t_s : Nat → Int32) : va_W := [(a_t, ob 8 [.ref a_t_s, .ref a_t_image, .ref a_t_mind, .ref a_t_aside, .int t_isKept, .int t_work, .int t_kind, .ref a_t_text, .ref a_t_read, .int t_letters, .int t_at, .int t_fault, .ref a_t_comes, .ref a_t_begins, .ref a_t_latest, .int t_back, .int t_waits, .int t_miles, .int t_loads, .int t_bestRound, .int t_bestPlace, .int t_bestAdds, .int t_regret, .ref a_t_move, .ref a_t_sort, .ref a_t_items, .ref a_t_cell, .ref a_t_carried, .int t_z]), (a_t_s, aI G 258 t_s)]
section
variable {p : Program} {l : Launch} {e : Env} {s : State} {m : MethodId} {args : Array Value} {below : List Frame} {meth : Method} {c : Code} {A : Nat → Prop} {G : GE} {a_t a_t_s a_t_image a_t_mind a_t_aside a_t_text a_t_read a_t_comes a_t_begins a_t_latest a_t_move a_t_sort a_t_items a_t_cell a_t_carried : Nat} {z_t_s : Nat → Int32}
set_option maxRecDepth 100000 in
set_option maxHeartbeats 4000000 in
theorem k_X8_inserts_21 (C : Cx p s m args meth c cX8_inserts none 6 RX8 G A) (t_isKept : Int32) (t_work : Int32) (t_kind : Int32) (t_letters : Int32) (t_at : Int32) (t_fault : Int32) (t_back : Int32) (t_waits : Int32) (t_miles : Int32) (t_loads : Int32) (t_bestRound : Int32) (t_bestPlace : Int32) (t_bestAdds : Int32) (t_regret : Int32) (t_z : Int32) (t_s : Nat → Int32) (x2 : Int32) (x3 : Int32) (x4 : Int32) (x5 : Int32) (k21 : Int32 × (Nat → Int32) → Option ((Nat → Int32))) (hk21 : ∀ {H : Heap} {locs : List Loc} {ls : Array Slot} (x5' : Int32) (t_s' : Nat → Int32), k21 (x5', t_s') = some z_t_s → St G A s.heap H locs (w_X8_inserts G a_t a_t_s a_t_image a_t_mind a_t_aside a_t_text a_t_read a_t_comes a_t_begins a_t_latest a_t_move a_t_sort a_t_items a_t_cell a_t_carried t_isKept t_work t_kind t_letters t_at t_fault t_back t_waits t_miles t_loads t_bestRound t_bestPlace t_bestAdds t_regret t_z t_s') → lv_has ls 6 [(0, .ref a_t), (2, .int x2), (3, .int x3), (4, .int x4), (5, .int x5')] → W p l e rm_X8_inserts s m args below meth c H locs 0 0 (QV G below args s A (w_X8_inserts G a_t a_t_s a_t_image a_t_mind a_t_aside a_t_text a_t_read a_t_comes a_t_begins a_t_latest a_t_move a_t_sort a_t_items a_t_cell a_t_carried t_isKept t_work t_kind t_letters t_at t_fault t_back t_waits t_miles t_loads t_bestRound t_bestPlace t_bestAdds t_regret t_z z_t_s)) (F0 m 21 ls [])) {H : Heap} {locs : List Loc} {ls : Array Slot} (hf : b_X8_inserts_21 x2 x3 x4 k21 x5 t_s = some z_t_s) (S : St G A s.heap H locs (w_X8_inserts G a_t a_t_s a_t_image a_t_mind a_t_aside a_t_text a_t_read a_t_comes a_t_begins a_t_latest a_t_move a_t_sort a_t_items a_t_cell a_t_carried t_isKept t_work t_kind t_letters t_at t_fault t_back t_waits t_miles t_loads t_bestRound t_bestPlace t_bestAdds t_regret t_z t_s)) (hl : lv_has ls 6 [(0, .ref a_t), (2, .int x2), (3, .int x3), (4, .int x4), (5, .int x5)]) : W p l e rm_X8_inserts s m args below meth c H locs 0 0 (QV G below args s A (w_X8_inserts G a_t a_t_s a_t_image a_t_mind a_t_aside a_t_text a_t_read a_t_comes a_t_begins a_t_latest a_t_move a_t_sort a_t_items a_t_cell a_t_carried t_isKept t_work t_kind t_letters t_at t_fault t_back t_waits t_miles t_loads t_bestRound t_bestPlace t_bestAdds t_regret t_z z_t_s)) (F0 m 21 ls []) := by
  unfold b_X8_inserts_21 at hf
  have hx := C.1
  have hb := C.2.1
  have hown := C.2.2.2.2.1
  have hts := C.2.2.2.2.2.1
  have hN := C.2.2.2.2.2.2.2.2.2.2
  refine lv_iload (pc := 21) hx hb dX8_inserts_21 (lv_at hl 4 rfl) ?_
  refine lv_iload_n (pc := 23) hx hb dX8_inserts_23 rfl (lv_at hl 1 rfl) ?_
  refine lv_icmp_le (tgt := 59) (pc := 24) hx hb dX8_inserts_24 (by decide) (fun c1 => ?_) (fun c1 => ?_)
  · have hf := ifp c1 hf
    refine lv_aload_n (pc := 59) hx hb dX8_inserts_59 rfl (lv_at hl 0 rfl) ?_
    refine x_get (pc := 60) (ci := 8) (T := TX8) (v := .ref a_t_s) C S 0 rfl rfl inlX8 0 (by decide) rfl qf_8_11 rfl dX8_inserts_60 ?_
    refine lv_iload (pc := 63) hx hb dX8_inserts_63 (lv_at hl 3 rfl) ?_
    refine lv_iconst (pc := 65) hx hb dX8_inserts_65 ic_4 ?_
    refine lv_iadd (pc := 66) hx hb dX8_inserts_66 ?_
    refine lv_iload_n (pc := 67) hx hb dX8_inserts_67 rfl (lv_at hl 1 rfl) ?_
    refine lv_iadd (pc := 68) hx hb dX8_inserts_68 ?_
    refine lv_iload_n (pc := 69) hx hb dX8_inserts_69 rfl (lv_at hl 2 rfl) ?_
    obtain ⟨hv2, hf⟩ := gI_e hf
    refine x_iast (pc := 70) (ws' := (w_X8_inserts G a_t a_t_s a_t_image a_t_mind a_t_aside a_t_text a_t_read a_t_comes a_t_begins a_t_latest a_t_move a_t_sort a_t_items a_t_cell a_t_carried t_isKept t_work t_kind t_letters t_at t_fault t_back t_waits t_miles t_loads t_bestRound t_bestPlace t_bestAdds t_regret t_z (upd t_s ((x4 + (4 : Int32)) + x2).toNatClampNeg x3))) C S 1 rfl hv2 rfl dX8_inserts_70 (fun H locs S => ?_)
    refine lv_aload_n (pc := 71) hx hb dX8_inserts_71 rfl (lv_at hl 0 rfl) ?_
    refine x_get (pc := 72) (ci := 8) (T := TX8) (v := .ref a_t_s) C S 0 rfl rfl inlX8 0 (by decide) rfl qf_8_11 rfl dX8_inserts_72 ?_
    refine lv_iload (pc := 75) hx hb dX8_inserts_75 (lv_at hl 3 rfl) ?_
    refine lv_iconst (pc := 77) hx hb dX8_inserts_77 ic_3 ?_
    refine lv_iadd (pc := 78) hx hb dX8_inserts_78 ?_
    refine lv_dup2_11 (pc := 79) hx hb dX8_inserts_79 rfl rfl ?_
    obtain ⟨hv3, hf⟩ := gI_e hf
    refine x_iald (pc := 80) C S 1 rfl hv3 dX8_inserts_80 ?_
    refine lv_iconst (pc := 81) hx hb dX8_inserts_81 ic_1 ?_
    refine lv_iadd (pc := 82) hx hb dX8_inserts_82 ?_
    refine x_iast (pc := 83) (ws' := (w_X8_inserts G a_t a_t_s a_t_image a_t_mind a_t_aside a_t_text a_t_read a_t_comes a_t_begins a_t_latest a_t_move a_t_sort a_t_items a_t_cell a_t_carried t_isKept t_work t_kind t_letters t_at t_fault t_back t_waits t_miles t_loads t_bestRound t_bestPlace t_bestAdds t_regret t_z (upd (upd t_s ((x4 + (4 : Int32)) + x2).toNatClampNeg x3) (x4 + (3 : Int32)).toNatClampNeg (((upd t_s ((x4 + (4 : Int32)) + x2).toNatClampNeg x3) (x4 + (3 : Int32)).toNatClampNeg) + (1 : Int32))))) C S 1 rfl hv3 rfl dX8_inserts_83 (fun H locs S => ?_)
    cases hf
    exact x_vret (pc := 84) C S dX8_inserts_84
  · have hf := ifn c1 hf
    refine lv_aload_n (pc := 27) hx hb dX8_inserts_27 rfl (lv_at hl 0 rfl) ?_
    refine x_get (pc := 28) (ci := 8) (T := TX8) (v := .ref a_t_s) C S 0 rfl rfl inlX8 0 (by decide) rfl qf_8_11 rfl dX8_inserts_28 ?_
    refine lv_iload (pc := 31) hx hb dX8_inserts_31 (lv_at hl 3 rfl) ?_
    refine lv_iconst (pc := 33) hx hb dX8_inserts_33 ic_4 ?_
    refine lv_iadd (pc := 34) hx hb dX8_inserts_34 ?_
    refine lv_iload (pc := 35) hx hb dX8_inserts_35 (lv_at hl 4 rfl) ?_
    refine lv_iadd (pc := 37) hx hb dX8_inserts_37 ?_
    refine lv_aload_n (pc := 38) hx hb dX8_inserts_38 rfl (lv_at hl 0 rfl) ?_
    refine x_get (pc := 39) (ci := 8) (T := TX8) (v := .ref a_t_s) C S 0 rfl rfl inlX8 0 (by decide) rfl qf_8_11 rfl dX8_inserts_39 ?_
    refine lv_iload (pc := 42) hx hb dX8_inserts_42 (lv_at hl 3 rfl) ?_
    refine lv_iconst (pc := 44) hx hb dX8_inserts_44 ic_4 ?_
    refine lv_iadd (pc := 45) hx hb dX8_inserts_45 ?_
    refine lv_iload (pc := 46) hx hb dX8_inserts_46 (lv_at hl 4 rfl) ?_
    refine lv_iadd (pc := 48) hx hb dX8_inserts_48 ?_
    refine lv_iconst (pc := 49) hx hb dX8_inserts_49 ic_1 ?_
    refine lv_isub (pc := 50) hx hb dX8_inserts_50 ?_
    obtain ⟨hv4, hf⟩ := gI_e hf
    refine x_iald (pc := 51) C S 1 rfl hv4 dX8_inserts_51 ?_
    obtain ⟨hv5, hf⟩ := gI_e hf
    refine x_iast (pc := 52) (ws' := (w_X8_inserts G a_t a_t_s a_t_image a_t_mind a_t_aside a_t_text a_t_read a_t_comes a_t_begins a_t_latest a_t_move a_t_sort a_t_items a_t_cell a_t_carried t_isKept t_work t_kind t_letters t_at t_fault t_back t_waits t_miles t_loads t_bestRound t_bestPlace t_bestAdds t_regret t_z (upd t_s ((x4 + (4 : Int32)) + x5).toNatClampNeg (t_s (((x4 + (4 : Int32)) + x5) - (1 : Int32)).toNatClampNeg)))) C S 1 rfl hv5 rfl dX8_inserts_52 (fun H locs S => ?_)
    refine lv_iinc (pc := 53) (v := (x5 + (-1 : Int32))) (lv' := [(5, .int (x5 + (-1 : Int32))), (0, .ref a_t), (2, .int x2), (3, .int x3), (4, .int x4)]) hx hb dX8_inserts_53 hl (k := 4) rfl (congrArg (fun z => x5 + z) ic_m1) (by decide) rfl (fun ls hl => ?_)
    refine lv_goto (tgt := 21) (pc := 56) hx hb dX8_inserts_56 (by decide) ?_
    exact hk21 ((x5 + (-1 : Int32))) ((upd t_s ((x4 + (4 : Int32)) + x5).toNatClampNeg (t_s (((x4 + (4 : Int32)) + x5) - (1 : Int32)).toNatClampNeg)))  hf S (lv_sub hl [1, 2, 3, 4, 0] rfl)
set_option maxRecDepth 100000 in
set_option maxHeartbeats 4000000 in
theorem h_X8_inserts_21 (C : Cx p s m args meth c cX8_inserts none 6 RX8 G A) (t_isKept : Int32) (t_work : Int32) (t_kind : Int32) (t_letters : Int32) (t_at : Int32) (t_fault : Int32) (t_back : Int32) (t_waits : Int32) (t_miles : Int32) (t_loads : Int32) (t_bestRound : Int32) (t_bestPlace : Int32) (t_bestAdds : Int32) (t_regret : Int32) (t_z : Int32) (x2 : Int32) (x3 : Int32) (x4 : Int32) : ∀ (n : Nat) (x5 : Int32) (t_s : Nat → Int32) {H : Heap} {locs : List Loc} {ls : Array Slot} (hf : lp (fun k x => b_X8_inserts_21 x2 x3 x4 k x.1 x.2) n (x5, t_s) = some z_t_s) (S : St G A s.heap H locs (w_X8_inserts G a_t a_t_s a_t_image a_t_mind a_t_aside a_t_text a_t_read a_t_comes a_t_begins a_t_latest a_t_move a_t_sort a_t_items a_t_cell a_t_carried t_isKept t_work t_kind t_letters t_at t_fault t_back t_waits t_miles t_loads t_bestRound t_bestPlace t_bestAdds t_regret t_z t_s)) (hl : lv_has ls 6 [(0, .ref a_t), (2, .int x2), (3, .int x3), (4, .int x4), (5, .int x5)]), W p l e rm_X8_inserts s m args below meth c H locs 0 0 (QV G below args s A (w_X8_inserts G a_t a_t_s a_t_image a_t_mind a_t_aside a_t_text a_t_read a_t_comes a_t_begins a_t_latest a_t_move a_t_sort a_t_items a_t_cell a_t_carried t_isKept t_work t_kind t_letters t_at t_fault t_back t_waits t_miles t_loads t_bestRound t_bestPlace t_bestAdds t_regret t_z z_t_s)) (F0 m 21 ls []) := by
  intro n
  induction n with
  | zero =>
    intro x5 t_s  H locs ls hf
    cases hf
  | succ n ih =>
    intro x5 t_s  H locs ls hf S hl
    have hf : b_X8_inserts_21 x2 x3 x4 (lp (fun k x => b_X8_inserts_21 x2 x3 x4 k x.1 x.2) n) x5 t_s = some z_t_s := hf
    exact k_X8_inserts_21 C t_isKept t_work t_kind t_letters t_at t_fault t_back t_waits t_miles t_loads t_bestRound t_bestPlace t_bestAdds t_regret t_z t_s x2 x3 x4 x5  (lp (fun k x => b_X8_inserts_21 x2 x3 x4 k x.1 x.2) n) (fun x5' t_s'  h S hl => ih x5' t_s'  h S hl) hf S hl
set_option maxRecDepth 100000 in
set_option maxHeartbeats 4000000 in
theorem c_X8_inserts (l : Launch) (G : GE) (a_t a_t_s a_t_image a_t_mind a_t_aside a_t_text a_t_read a_t_comes a_t_begins a_t_latest a_t_move a_t_sort a_t_items a_t_cell a_t_carried : Nat) (t_isKept : Int32) (t_work : Int32) (t_kind : Int32) (t_letters : Int32) (t_at : Int32) (t_fault : Int32) (t_back : Int32) (t_waits : Int32) (t_miles : Int32) (t_loads : Int32) (t_bestRound : Int32) (t_bestPlace : Int32) (t_bestAdds : Int32) (t_regret : Int32) (t_z : Int32) (t_s : Nat → Int32) (x1 : Int32) (x2 : Int32) (x3 : Int32) (z_t_s : Nat → Int32) (hf : f_X8_inserts t_s x1 x2 x3 = some z_t_s) : CV l G yX8_inserts kw_X8_inserts rm_X8_inserts [.ref a_t, .int x1, .int x2, .int x3] (w_X8_inserts G a_t a_t_s a_t_image a_t_mind a_t_aside a_t_text a_t_read a_t_comes a_t_begins a_t_latest a_t_move a_t_sort a_t_items a_t_cell a_t_carried t_isKept t_work t_kind t_letters t_at t_fault t_back t_waits t_miles t_loads t_bestRound t_bestPlace t_bestAdds t_regret t_z t_s) (w_X8_inserts G a_t a_t_s a_t_image a_t_mind a_t_aside a_t_text a_t_read a_t_comes a_t_begins a_t_latest a_t_move a_t_sort a_t_items a_t_cell a_t_carried t_isKept t_work t_kind t_letters t_at t_fault t_back t_waits t_miles t_loads t_bestRound t_bestPlace t_bestAdds t_regret t_z z_t_s) := by
  refine en_V (cc := cX8_inserts) (maxL := 6) (ret := none) (by decide +kernel) (Nat.le_of_ble_eq_true rfl) ?_
  intro p e s m args below meth c A ls C S hl
  have hl : lv_has ls 6 [(0, .ref a_t), (1, .int x1), (2, .int x2), (3, .int x3)] := hl
  have C : Cx p s m args meth c cX8_inserts none 6 RX8 G A := C
  unfold f_X8_inserts at hf
  have hx := C.1
  have hb := C.2.1
  have hown := C.2.2.2.2.1
  have hts := C.2.2.2.2.2.1
  have hN := C.2.2.2.2.2.2.2.2.2.2
  refine lv_sipush (pc := 0) hx hb dX8_inserts_0 sc_178 ?_
  refine lv_bipush (pc := 3) hx hb dX8_inserts_3 bc_20 ?_
  refine lv_iload_n (pc := 5) hx hb dX8_inserts_5 rfl (lv_at hl 1 rfl) ?_
  refine lv_imul (pc := 6) hx hb dX8_inserts_6 ?_
  refine lv_iadd (pc := 7) hx hb dX8_inserts_7 ?_
  refine lv_istore (pc := 8) (lv' := [(4, .int ((178 : Int32) + ((20 : Int32) * x1))), (0, .ref a_t), (1, .int x1), (2, .int x2), (3, .int x3)]) hx hb dX8_inserts_8 hl (by decide) rfl (fun ls hl => ?_)
  refine lv_aload_n (pc := 10) hx hb dX8_inserts_10 rfl (lv_at hl 1 rfl) ?_
  refine x_get (pc := 11) (ci := 8) (T := TX8) (v := .ref a_t_s) C S 0 rfl rfl inlX8 0 (by decide) rfl qf_8_11 rfl dX8_inserts_11 ?_
  refine lv_iload (pc := 14) hx hb dX8_inserts_14 (lv_at hl 0 rfl) ?_
  refine lv_iconst (pc := 16) hx hb dX8_inserts_16 ic_3 ?_
  refine lv_iadd (pc := 17) hx hb dX8_inserts_17 ?_
  obtain ⟨hv1, hf⟩ := gI_e hf
  refine x_iald (pc := 18) C S 1 rfl hv1 dX8_inserts_18 ?_
  refine lv_istore (pc := 19) (lv' := [(5, .int (t_s (((178 : Int32) + ((20 : Int32) * x1)) + (3 : Int32)).toNatClampNeg)), (4, .int ((178 : Int32) + ((20 : Int32) * x1))), (0, .ref a_t), (1, .int x1), (2, .int x2), (3, .int x3)]) hx hb dX8_inserts_19 hl (by decide) rfl (fun ls hl => ?_)
  exact h_X8_inserts_21 C (t_isKept) (t_work) (t_kind) (t_letters) (t_at) (t_fault) (t_back) (t_waits) (t_miles) (t_loads) (t_bestRound) (t_bestPlace) (t_bestAdds) (t_regret) (t_z) (x2) (x3) (((178 : Int32) + ((20 : Int32) * x1))) fu ((t_s (((178 : Int32) + ((20 : Int32) * x1)) + (3 : Int32)).toNatClampNeg)) (t_s) hf S (lv_sub hl [2, 4, 5, 1, 0] rfl)
end

abbrev rm_X8_lateBy : Room := { frames := 3, cells := 0, slots := 0, locals := 72 }
abbrev kw_X8_lateBy : Cond := .code yX8_lateBy cX8_lateBy 8 (some .int)
abbrev w_X8_lateBy (G : GE) (a_t a_t_s a_t_image a_t_mind a_t_aside a_t_text a_t_read a_t_comes a_t_begins a_t_latest a_t_move a_t_sort a_t_items a_t_cell a_t_carried : Nat) (t_isKept : Int32) (t_work : Int32) (t_kind : Int32) (t_letters : Int32) (t_at : Int32) (t_fault : Int32) (t_back : Int32) (t_waits : Int32) (t_miles : Int32) (t_loads : Int32) (t_bestRound : Int32) (t_bestPlace : Int32) (t_bestAdds : Int32) (t_regret : Int32) (t_z : Int32) (t_s : Nat → Int32) (t_comes : Nat → Int32) (t_begins : Nat → Int32) : va_W := [(a_t, ob 8 [.ref a_t_s, .ref a_t_image, .ref a_t_mind, .ref a_t_aside, .int t_isKept, .int t_work, .int t_kind, .ref a_t_text, .ref a_t_read, .int t_letters, .int t_at, .int t_fault, .ref a_t_comes, .ref a_t_begins, .ref a_t_latest, .int t_back, .int t_waits, .int t_miles, .int t_loads, .int t_bestRound, .int t_bestPlace, .int t_bestAdds, .int t_regret, .ref a_t_move, .ref a_t_sort, .ref a_t_items, .ref a_t_cell, .ref a_t_carried, .int t_z]), (a_t_s, aI G 258 t_s), (a_t_comes, aI G 16 t_comes), (a_t_begins, aI G 16 t_begins)]
theorem u_X8_lateBy_X8_roundAt_59 {s : State} {args : Array Value} (hts : ∀ w ∈ WU, w.before args s = true) : CallW rm_X8_lateBy s args RX8 RX8 59 yX8_roundAt cX8_roundAt 3 (some .int) (kw_X8_roundAt :: WU) rm_X8_roundAt 0 0 2 := cwV 2 hts (gV qm_8_59 qi_X8_roundAt ql_X8_roundAt qn_8 qc_X8_roundAt) rfl rfl rfl (by decide +kernel) ⟨Nat.le_of_ble_eq_true rfl, Nat.le_of_ble_eq_true rfl⟩
theorem u_X8_lateBy_X8_inRow_63 {s : State} {args : Array Value} (hts : ∀ w ∈ WU, w.before args s = true) : CallW rm_X8_lateBy s args RX8 RX8 63 yX8_inRow cX8_inRow 3 (some .int) (kw_X8_inRow :: WU) rm_X8_inRow 0 0 2 := cwV 2 hts (gV qm_8_63 qi_X8_inRow ql_X8_inRow qn_8 qc_X8_inRow) rfl rfl rfl (by decide +kernel) ⟨Nat.le_of_ble_eq_true rfl, Nat.le_of_ble_eq_true rfl⟩
theorem u_X8_lateBy_X8_fromDepot_85 {s : State} {args : Array Value} (hts : ∀ w ∈ WU, w.before args s = true) : CallW rm_X8_lateBy s args RX8 RX8 85 yX8_fromDepot cX8_fromDepot 2 (some .int) (kw_X8_fromDepot :: WU) rm_X8_fromDepot 0 0 1 := cwV 1 hts (gV qm_8_85 qi_X8_fromDepot ql_X8_fromDepot qn_8 qc_X8_fromDepot) rfl rfl rfl (by decide +kernel) ⟨Nat.le_of_ble_eq_true rfl, Nat.le_of_ble_eq_true rfl⟩
theorem u_X8_lateBy_X8_between_88 {s : State} {args : Array Value} (hts : ∀ w ∈ WU, w.before args s = true) : CallW rm_X8_lateBy s args RX8 RX8 88 yX8_between cX8_between 3 (some .int) (kw_X8_between :: WU) rm_X8_between 0 0 2 := cwV 2 hts (gV qm_8_88 qi_X8_between ql_X8_between qn_8 qc_X8_between) rfl rfl rfl (by decide +kernel) ⟨Nat.le_of_ble_eq_true rfl, Nat.le_of_ble_eq_true rfl⟩
theorem u_X8_lateBy_X8_stopAt_78 {s : State} {args : Array Value} (hts : ∀ w ∈ WU, w.before args s = true) : CallW rm_X8_lateBy s args RX8 RX8 78 yX8_stopAt cX8_stopAt 3 (some .int) (kw_X8_stopAt :: WU) rm_X8_stopAt 0 0 2 := cwV 2 hts (gV qm_8_78 qi_X8_stopAt ql_X8_stopAt qn_8 qc_X8_stopAt) rfl rfl rfl (by decide +kernel) ⟨Nat.le_of_ble_eq_true rfl, Nat.le_of_ble_eq_true rfl⟩
section
variable {p : Program} {l : Launch} {e : Env} {s : State} {m : MethodId} {args : Array Value} {below : List Frame} {meth : Method} {c : Code} {A : Nat → Prop} {G : GE} {a_t a_t_s a_t_image a_t_mind a_t_aside a_t_text a_t_read a_t_comes a_t_begins a_t_latest a_t_move a_t_sort a_t_items a_t_cell a_t_carried : Nat} {r : Int32} {z_t_comes : Nat → Int32} {z_t_begins : Nat → Int32} {z_t_back : Int32} {z_t_waits : Int32} {z_t_loads : Int32}
set_option maxRecDepth 100000 in
set_option maxHeartbeats 4000000 in
theorem k_X8_lateBy_224 (C : Cx p s m args meth c cX8_lateBy (some .int) 8 RX8 G A) (t_isKept : Int32) (t_work : Int32) (t_kind : Int32) (t_letters : Int32) (t_at : Int32) (t_fault : Int32) (t_back : Int32) (t_waits : Int32) (t_miles : Int32) (t_loads : Int32) (t_bestRound : Int32) (t_bestPlace : Int32) (t_bestAdds : Int32) (t_regret : Int32) (t_z : Int32) (t_s : Nat → Int32) (t_comes : Nat → Int32) (t_begins : Nat → Int32) (x1 : Int32) (x3 : Int32) (x5 : Int32) (y1 : Int32) {H : Heap} {locs : List Loc} {ls : Array Slot} (hf : b_X8_lateBy_224 x1 x3 x5 y1 t_s t_comes t_begins t_waits t_loads = some (r, z_t_comes, z_t_begins, z_t_back, z_t_waits, z_t_loads)) (S : St G A s.heap H locs (w_X8_lateBy G a_t a_t_s a_t_image a_t_mind a_t_aside a_t_text a_t_read a_t_comes a_t_begins a_t_latest a_t_move a_t_sort a_t_items a_t_cell a_t_carried t_isKept t_work t_kind t_letters t_at t_fault t_back t_waits t_miles t_loads t_bestRound t_bestPlace t_bestAdds t_regret t_z t_s t_comes t_begins)) (hl : lv_has ls 8 [(0, .ref a_t), (1, .int x1), (3, .int x3), (5, .int x5)]) : W p l e rm_X8_lateBy s m args below meth c H locs 0 0 (QI G below args s A r (w_X8_lateBy G a_t a_t_s a_t_image a_t_mind a_t_aside a_t_text a_t_read a_t_comes a_t_begins a_t_latest a_t_move a_t_sort a_t_items a_t_cell a_t_carried t_isKept t_work t_kind t_letters t_at t_fault z_t_back z_t_waits t_miles z_t_loads t_bestRound t_bestPlace t_bestAdds t_regret t_z t_s z_t_comes z_t_begins)) (F0 m 224 ls [.int y1, .ref a_t]) := by
  unfold b_X8_lateBy_224 at hf
  have hx := C.1
  have hb := C.2.1
  have hown := C.2.2.2.2.1
  have hts := C.2.2.2.2.2.1
  have hN := C.2.2.2.2.2.2.2.2.2.2
  refine x_put (pc := 224) (ci := 8) (T := TX8) (ws' := (w_X8_lateBy G a_t a_t_s a_t_image a_t_mind a_t_aside a_t_text a_t_read a_t_comes a_t_begins a_t_latest a_t_move a_t_sort a_t_items a_t_cell a_t_carried t_isKept t_work t_kind t_letters t_at t_fault y1 t_waits t_miles t_loads t_bestRound t_bestPlace t_bestAdds t_regret t_z t_s t_comes t_begins)) C S tyX8 tyX8_ok nmX8 0 rfl rfl inlX8 15 (by decide) rfl qf_8_98 rfl rfl rfl rfl (Nat.le_of_ble_eq_true rfl) rfl dX8_lateBy_224 (fun H locs S => ?_)
  refine lv_iload (pc := 227) hx hb dX8_lateBy_227 (lv_at hl 3 rfl) ?_
  refine lv_if_ge (tgt := 249) (pc := 229) hx hb dX8_lateBy_229 (by decide) (fun c1 => ?_) (fun c1 => ?_)
  · have hf := ifp c1 hf
    refine lv_iload (pc := 249) hx hb dX8_lateBy_249 (lv_at hl 3 rfl) ?_
    refine lv_goto (tgt := 255) (pc := 251) hx hb dX8_lateBy_251 (by decide) ?_
    cases hf
    exact x_iret (pc := 255) C S dX8_lateBy_255
  · have hf := ifn c1 hf
    refine lv_iload_n (pc := 232) hx hb dX8_lateBy_232 rfl (lv_at hl 2 rfl) ?_
    refine lv_if_eq (tgt := 249) (pc := 233) hx hb dX8_lateBy_233 (by decide) (fun c2 => ?_) (fun c2 => ?_)
    · have hf := ifp c2 hf
      refine lv_iload (pc := 249) hx hb dX8_lateBy_249 (lv_at hl 3 rfl) ?_
      refine lv_goto (tgt := 255) (pc := 251) hx hb dX8_lateBy_251 (by decide) ?_
      cases hf
      exact x_iret (pc := 255) C S dX8_lateBy_255
    · have hf := ifn c2 hf
      refine lv_aload_n (pc := 236) hx hb dX8_lateBy_236 rfl (lv_at hl 0 rfl) ?_
      refine x_get (pc := 237) (ci := 8) (T := TX8) (v := .int y1) C S 0 rfl rfl inlX8 15 (by decide) rfl qf_8_98 rfl dX8_lateBy_237 ?_
      refine lv_aload_n (pc := 240) hx hb dX8_lateBy_240 rfl (lv_at hl 0 rfl) ?_
      refine lv_iload_n (pc := 241) hx hb dX8_lateBy_241 rfl (lv_at hl 1 rfl) ?_
      refine lv_iconst (pc := 242) hx hb dX8_lateBy_242 ic_2 ?_
      obtain ⟨r3, hq3, hf⟩ := bd_e hf
      refine x_vI (pc := 243) (As := [.int x1, .int (2 : Int32)]) (rest := [.int y1]) (isC := [0, 1]) (ws' := (w_X8_lateBy G a_t a_t_s a_t_image a_t_mind a_t_aside a_t_text a_t_read a_t_comes a_t_begins a_t_latest a_t_move a_t_sort a_t_items a_t_cell a_t_carried t_isKept t_work t_kind t_letters t_at t_fault y1 t_waits t_miles t_loads t_bestRound t_bestPlace t_bestAdds t_regret t_z t_s t_comes t_begins)) C S (c_X8_roundAt l G a_t a_t_s a_t_image a_t_mind a_t_aside a_t_text a_t_read a_t_comes a_t_begins a_t_latest a_t_move a_t_sort a_t_items a_t_cell a_t_carried t_isKept t_work t_kind t_letters t_at t_fault y1 t_waits t_miles t_loads t_bestRound t_bestPlace t_bestAdds t_regret t_z t_s x1 (2 : Int32) r3 hq3) (u_X8_lateBy_X8_roundAt_59 hts) (ci := 8) rfl 0 rfl rfl (by decide +kernel) [some 0, some 1, none, none] (by decide +kernel) rfl rfl rfl hl.1 rfl (Nat.le_of_ble_eq_true rfl) dX8_lateBy_243 (fun H locs S => ?_)
      refine lv_icmp_gt (tgt := 254) (pc := 246) hx hb dX8_lateBy_246 (by decide) (fun c4 => ?_) (fun c4 => ?_)
      · have hf := ifp c4 hf
        refine lv_iload_n (pc := 254) hx hb dX8_lateBy_254 rfl (lv_at hl 2 rfl) ?_
        cases hf
        exact x_iret (pc := 255) C S dX8_lateBy_255
      · have hf := ifn c4 hf
        refine lv_iload (pc := 249) hx hb dX8_lateBy_249 (lv_at hl 3 rfl) ?_
        refine lv_goto (tgt := 255) (pc := 251) hx hb dX8_lateBy_251 (by decide) ?_
        cases hf
        exact x_iret (pc := 255) C S dX8_lateBy_255
set_option maxRecDepth 100000 in
set_option maxHeartbeats 4000000 in
theorem k_X8_lateBy_172 (C : Cx p s m args meth c cX8_lateBy (some .int) 8 RX8 G A) (t_isKept : Int32) (t_work : Int32) (t_kind : Int32) (t_letters : Int32) (t_at : Int32) (t_fault : Int32) (t_back : Int32) (t_waits : Int32) (t_miles : Int32) (t_loads : Int32) (t_bestRound : Int32) (t_bestPlace : Int32) (t_bestAdds : Int32) (t_regret : Int32) (t_z : Int32) (t_s : Nat → Int32) (t_comes : Nat → Int32) (t_begins : Nat → Int32) (x1 : Int32) (x3 : Int32) (x5 : Int32) (x6 : Int32) (x7 : Int32) (k34 : Int32 × Int32 × Int32 × (Nat → Int32) × (Nat → Int32) × Int32 × Int32 → Option (Int32 × (Nat → Int32) × (Nat → Int32) × Int32 × Int32 × Int32)) (hk34 : ∀ {H : Heap} {locs : List Loc} {ls : Array Slot} (x4' : Int32) (x5' : Int32) (x6' : Int32) (t_comes' : Nat → Int32) (t_begins' : Nat → Int32) (t_waits' : Int32) (t_loads' : Int32), k34 (x4', x5', x6', t_comes', t_begins', t_waits', t_loads') = some (r, z_t_comes, z_t_begins, z_t_back, z_t_waits, z_t_loads) → St G A s.heap H locs (w_X8_lateBy G a_t a_t_s a_t_image a_t_mind a_t_aside a_t_text a_t_read a_t_comes a_t_begins a_t_latest a_t_move a_t_sort a_t_items a_t_cell a_t_carried t_isKept t_work t_kind t_letters t_at t_fault t_back t_waits' t_miles t_loads' t_bestRound t_bestPlace t_bestAdds t_regret t_z t_s t_comes' t_begins') → lv_has ls 8 [(0, .ref a_t), (1, .int x1), (3, .int x3), (4, .int x4'), (5, .int x5'), (6, .int x6')] → W p l e rm_X8_lateBy s m args below meth c H locs 0 0 (QI G below args s A r (w_X8_lateBy G a_t a_t_s a_t_image a_t_mind a_t_aside a_t_text a_t_read a_t_comes a_t_begins a_t_latest a_t_move a_t_sort a_t_items a_t_cell a_t_carried t_isKept t_work t_kind t_letters t_at t_fault z_t_back z_t_waits t_miles z_t_loads t_bestRound t_bestPlace t_bestAdds t_regret t_z t_s z_t_comes z_t_begins)) (F0 m 34 ls [])) {H : Heap} {locs : List Loc} {ls : Array Slot} (hf : b_X8_lateBy_172 k34 x1 x3 x5 x6 x7 t_s t_comes t_begins t_waits t_loads = some (r, z_t_comes, z_t_begins, z_t_back, z_t_waits, z_t_loads)) (S : St G A s.heap H locs (w_X8_lateBy G a_t a_t_s a_t_image a_t_mind a_t_aside a_t_text a_t_read a_t_comes a_t_begins a_t_latest a_t_move a_t_sort a_t_items a_t_cell a_t_carried t_isKept t_work t_kind t_letters t_at t_fault t_back t_waits t_miles t_loads t_bestRound t_bestPlace t_bestAdds t_regret t_z t_s t_comes t_begins)) (hl : lv_has ls 8 [(0, .ref a_t), (1, .int x1), (3, .int x3), (5, .int x5), (6, .int x6), (7, .int x7)]) : W p l e rm_X8_lateBy s m args below meth c H locs 0 0 (QI G below args s A r (w_X8_lateBy G a_t a_t_s a_t_image a_t_mind a_t_aside a_t_text a_t_read a_t_comes a_t_begins a_t_latest a_t_move a_t_sort a_t_items a_t_cell a_t_carried t_isKept t_work t_kind t_letters t_at t_fault z_t_back z_t_waits t_miles z_t_loads t_bestRound t_bestPlace t_bestAdds t_regret t_z t_s z_t_comes z_t_begins)) (F0 m 172 ls []) := by
  unfold b_X8_lateBy_172 at hf
  have hx := C.1
  have hb := C.2.1
  have hown := C.2.2.2.2.1
  have hts := C.2.2.2.2.2.1
  have hN := C.2.2.2.2.2.2.2.2.2.2
  refine lv_aload_n (pc := 172) hx hb dX8_lateBy_172 rfl (lv_at hl 0 rfl) ?_
  refine x_get (pc := 173) (ci := 8) (T := TX8) (v := .ref a_t_begins) C S 0 rfl rfl inlX8 13 (by decide) rfl qf_8_33 rfl dX8_lateBy_173 ?_
  refine lv_iload (pc := 176) hx hb dX8_lateBy_176 (lv_at hl 4 rfl) ?_
  obtain ⟨hv1, hf⟩ := gI_e hf
  refine x_iald (pc := 178) C S 3 rfl hv1 dX8_lateBy_178 ?_
  refine lv_aload_n (pc := 179) hx hb dX8_lateBy_179 rfl (lv_at hl 0 rfl) ?_
  refine lv_iload (pc := 180) hx hb dX8_lateBy_180 (lv_at hl 5 rfl) ?_
  refine lv_iconst (pc := 182) hx hb dX8_lateBy_182 ic_5 ?_
  obtain ⟨r2, hq2, hf⟩ := bd_e hf
  refine x_vI (pc := 183) (As := [.int x7, .int (5 : Int32)]) (rest := [.int (t_begins x6.toNatClampNeg)]) (isC := [0, 1]) (ws' := (w_X8_lateBy G a_t a_t_s a_t_image a_t_mind a_t_aside a_t_text a_t_read a_t_comes a_t_begins a_t_latest a_t_move a_t_sort a_t_items a_t_cell a_t_carried t_isKept t_work t_kind t_letters t_at t_fault t_back t_waits t_miles t_loads t_bestRound t_bestPlace t_bestAdds t_regret t_z t_s t_comes t_begins)) C S (c_X8_stopAt l G a_t a_t_s a_t_image a_t_mind a_t_aside a_t_text a_t_read a_t_comes a_t_begins a_t_latest a_t_move a_t_sort a_t_items a_t_cell a_t_carried t_isKept t_work t_kind t_letters t_at t_fault t_back t_waits t_miles t_loads t_bestRound t_bestPlace t_bestAdds t_regret t_z t_s x7 (5 : Int32) r2 hq2) (u_X8_lateBy_X8_stopAt_78 hts) (ci := 8) rfl 0 rfl rfl (by decide +kernel) [some 0, some 1, none, none] (by decide +kernel) rfl rfl rfl hl.1 rfl (Nat.le_of_ble_eq_true rfl) dX8_lateBy_183 (fun H locs S => ?_)
  refine lv_iadd (pc := 186) hx hb dX8_lateBy_186 ?_
  refine lv_istore (pc := 187) (lv' := [(4, .int ((t_begins x6.toNatClampNeg) + r2)), (0, .ref a_t), (1, .int x1), (3, .int x3), (5, .int x5), (6, .int x6), (7, .int x7)]) hx hb dX8_lateBy_187 hl (by decide) rfl (fun ls hl => ?_)
  refine lv_iinc (pc := 189) (v := (x6 + (1 : Int32))) (lv' := [(6, .int (x6 + (1 : Int32))), (4, .int ((t_begins x6.toNatClampNeg) + r2)), (0, .ref a_t), (1, .int x1), (3, .int x3), (5, .int x5), (7, .int x7)]) hx hb dX8_lateBy_189 hl (k := 5) rfl (congrArg (fun z => x6 + z) ic_1) (by decide) rfl (fun ls hl => ?_)
  refine lv_goto (tgt := 34) (pc := 192) hx hb dX8_lateBy_192 (by decide) ?_
  exact hk34 (((t_begins x6.toNatClampNeg) + r2)) (x5) ((x6 + (1 : Int32))) (t_comes) (t_begins) (t_waits) (t_loads)  hf S (lv_sub hl [2, 3, 4, 1, 5, 0] rfl)
set_option maxRecDepth 100000 in
set_option maxHeartbeats 4000000 in
theorem k_X8_lateBy_80 (C : Cx p s m args meth c cX8_lateBy (some .int) 8 RX8 G A) (t_isKept : Int32) (t_work : Int32) (t_kind : Int32) (t_letters : Int32) (t_at : Int32) (t_fault : Int32) (t_back : Int32) (t_waits : Int32) (t_miles : Int32) (t_loads : Int32) (t_bestRound : Int32) (t_bestPlace : Int32) (t_bestAdds : Int32) (t_regret : Int32) (t_z : Int32) (t_s : Nat → Int32) (t_comes : Nat → Int32) (t_begins : Nat → Int32) (x1 : Int32) (x3 : Int32) (x5 : Int32) (x6 : Int32) (x7 : Int32) (y0 : Int32) (y1 : Int32) (k34 : Int32 × Int32 × Int32 × (Nat → Int32) × (Nat → Int32) × Int32 × Int32 → Option (Int32 × (Nat → Int32) × (Nat → Int32) × Int32 × Int32 × Int32)) (hk34 : ∀ {H : Heap} {locs : List Loc} {ls : Array Slot} (x4' : Int32) (x5' : Int32) (x6' : Int32) (t_comes' : Nat → Int32) (t_begins' : Nat → Int32) (t_waits' : Int32) (t_loads' : Int32), k34 (x4', x5', x6', t_comes', t_begins', t_waits', t_loads') = some (r, z_t_comes, z_t_begins, z_t_back, z_t_waits, z_t_loads) → St G A s.heap H locs (w_X8_lateBy G a_t a_t_s a_t_image a_t_mind a_t_aside a_t_text a_t_read a_t_comes a_t_begins a_t_latest a_t_move a_t_sort a_t_items a_t_cell a_t_carried t_isKept t_work t_kind t_letters t_at t_fault t_back t_waits' t_miles t_loads' t_bestRound t_bestPlace t_bestAdds t_regret t_z t_s t_comes' t_begins') → lv_has ls 8 [(0, .ref a_t), (1, .int x1), (3, .int x3), (4, .int x4'), (5, .int x5'), (6, .int x6')] → W p l e rm_X8_lateBy s m args below meth c H locs 0 0 (QI G below args s A r (w_X8_lateBy G a_t a_t_s a_t_image a_t_mind a_t_aside a_t_text a_t_read a_t_comes a_t_begins a_t_latest a_t_move a_t_sort a_t_items a_t_cell a_t_carried t_isKept t_work t_kind t_letters t_at t_fault z_t_back z_t_waits t_miles z_t_loads t_bestRound t_bestPlace t_bestAdds t_regret t_z t_s z_t_comes z_t_begins)) (F0 m 34 ls [])) {H : Heap} {locs : List Loc} {ls : Array Slot} (hf : b_X8_lateBy_80 k34 x1 x3 x5 x6 x7 y0 y1 t_s t_comes t_begins t_waits t_loads = some (r, z_t_comes, z_t_begins, z_t_back, z_t_waits, z_t_loads)) (S : St G A s.heap H locs (w_X8_lateBy G a_t a_t_s a_t_image a_t_mind a_t_aside a_t_text a_t_read a_t_comes a_t_begins a_t_latest a_t_move a_t_sort a_t_items a_t_cell a_t_carried t_isKept t_work t_kind t_letters t_at t_fault t_back t_waits t_miles t_loads t_bestRound t_bestPlace t_bestAdds t_regret t_z t_s t_comes t_begins)) (hl : lv_has ls 8 [(0, .ref a_t), (1, .int x1), (3, .int x3), (5, .int x5), (6, .int x6), (7, .int x7)]) : W p l e rm_X8_lateBy s m args below meth c H locs 0 0 (QI G below args s A r (w_X8_lateBy G a_t a_t_s a_t_image a_t_mind a_t_aside a_t_text a_t_read a_t_comes a_t_begins a_t_latest a_t_move a_t_sort a_t_items a_t_cell a_t_carried t_isKept t_work t_kind t_letters t_at t_fault z_t_back z_t_waits t_miles z_t_loads t_bestRound t_bestPlace t_bestAdds t_regret t_z t_s z_t_comes z_t_begins)) (F0 m 80 ls [.int y1, .int y0]) := by
  unfold b_X8_lateBy_80 at hf
  have hx := C.1
  have hb := C.2.1
  have hown := C.2.2.2.2.1
  have hts := C.2.2.2.2.2.1
  have hN := C.2.2.2.2.2.2.2.2.2.2
  refine lv_iadd (pc := 80) hx hb dX8_lateBy_80 ?_
  refine lv_istore (pc := 81) (lv' := [(4, .int (y0 + y1)), (0, .ref a_t), (1, .int x1), (3, .int x3), (5, .int x5), (6, .int x6), (7, .int x7)]) hx hb dX8_lateBy_81 hl (by decide) rfl (fun ls hl => ?_)
  refine lv_aload_n (pc := 83) hx hb dX8_lateBy_83 rfl (lv_at hl 1 rfl) ?_
  refine x_get (pc := 84) (ci := 8) (T := TX8) (v := .ref a_t_comes) C S 0 rfl rfl inlX8 12 (by decide) rfl qf_8_30 rfl dX8_lateBy_84 ?_
  refine lv_iload (pc := 87) hx hb dX8_lateBy_87 (lv_at hl 5 rfl) ?_
  refine lv_iload (pc := 89) hx hb dX8_lateBy_89 (lv_at hl 0 rfl) ?_
  obtain ⟨hv1, hf⟩ := gI_e hf
  refine x_iast (pc := 91) (ws' := (w_X8_lateBy G a_t a_t_s a_t_image a_t_mind a_t_aside a_t_text a_t_read a_t_comes a_t_begins a_t_latest a_t_move a_t_sort a_t_items a_t_cell a_t_carried t_isKept t_work t_kind t_letters t_at t_fault t_back t_waits t_miles t_loads t_bestRound t_bestPlace t_bestAdds t_regret t_z t_s (upd t_comes x6.toNatClampNeg (y0 + y1)) t_begins)) C S 2 rfl hv1 rfl dX8_lateBy_91 (fun H locs S => ?_)
  refine lv_aload_n (pc := 92) hx hb dX8_lateBy_92 rfl (lv_at hl 1 rfl) ?_
  refine x_get (pc := 93) (ci := 8) (T := TX8) (v := .ref a_t_begins) C S 0 rfl rfl inlX8 13 (by decide) rfl qf_8_33 rfl dX8_lateBy_93 ?_
  refine lv_iload (pc := 96) hx hb dX8_lateBy_96 (lv_at hl 5 rfl) ?_
  refine lv_iload (pc := 98) hx hb dX8_lateBy_98 (lv_at hl 0 rfl) ?_
  refine lv_aload_n (pc := 100) hx hb dX8_lateBy_100 rfl (lv_at hl 1 rfl) ?_
  refine lv_iload (pc := 101) hx hb dX8_lateBy_101 (lv_at hl 6 rfl) ?_
  refine lv_iconst (pc := 103) hx hb dX8_lateBy_103 ic_3 ?_
  obtain ⟨r2, hq2, hf⟩ := bd_e hf
  refine x_vI (pc := 104) (As := [.int x7, .int (3 : Int32)]) (rest := [.int (y0 + y1), .int x6, .ref a_t_begins]) (isC := [0, 1]) (ws' := (w_X8_lateBy G a_t a_t_s a_t_image a_t_mind a_t_aside a_t_text a_t_read a_t_comes a_t_begins a_t_latest a_t_move a_t_sort a_t_items a_t_cell a_t_carried t_isKept t_work t_kind t_letters t_at t_fault t_back t_waits t_miles t_loads t_bestRound t_bestPlace t_bestAdds t_regret t_z t_s (upd t_comes x6.toNatClampNeg (y0 + y1)) t_begins)) C S (c_X8_stopAt l G a_t a_t_s a_t_image a_t_mind a_t_aside a_t_text a_t_read a_t_comes a_t_begins a_t_latest a_t_move a_t_sort a_t_items a_t_cell a_t_carried t_isKept t_work t_kind t_letters t_at t_fault t_back t_waits t_miles t_loads t_bestRound t_bestPlace t_bestAdds t_regret t_z t_s x7 (3 : Int32) r2 hq2) (u_X8_lateBy_X8_stopAt_78 hts) (ci := 8) rfl 0 rfl rfl (by decide +kernel) [some 0, some 1, none, none] (by decide +kernel) rfl rfl rfl hl.1 rfl (Nat.le_of_ble_eq_true rfl) dX8_lateBy_104 (fun H locs S => ?_)
  refine x_max (pc := 107) C hl.1 qm_8_75 qs_max qn_Math qc_max (Nat.le_of_ble_eq_true rfl) (Nat.le_of_ble_eq_true rfl) dX8_lateBy_107 ?_
  refine x_iast (pc := 110) (ws' := (w_X8_lateBy G a_t a_t_s a_t_image a_t_mind a_t_aside a_t_text a_t_read a_t_comes a_t_begins a_t_latest a_t_move a_t_sort a_t_items a_t_cell a_t_carried t_isKept t_work t_kind t_letters t_at t_fault t_back t_waits t_miles t_loads t_bestRound t_bestPlace t_bestAdds t_regret t_z t_s (upd t_comes x6.toNatClampNeg (y0 + y1)) (upd t_begins x6.toNatClampNeg (mmax (y0 + y1) r2)))) C S 3 rfl hv1 rfl dX8_lateBy_110 (fun H locs S => ?_)
  refine lv_aload_n (pc := 111) hx hb dX8_lateBy_111 rfl (lv_at hl 1 rfl) ?_
  refine lv_dup (pc := 112) hx hb dX8_lateBy_112 rfl ?_
  refine x_get (pc := 113) (ci := 8) (T := TX8) (v := .int t_waits) C S 0 rfl rfl inlX8 16 (by decide) rfl qf_8_91 rfl dX8_lateBy_113 ?_
  refine lv_aload_n (pc := 116) hx hb dX8_lateBy_116 rfl (lv_at hl 1 rfl) ?_
  refine x_get (pc := 117) (ci := 8) (T := TX8) (v := .ref a_t_begins) C S 0 rfl rfl inlX8 13 (by decide) rfl qf_8_33 rfl dX8_lateBy_117 ?_
  refine lv_iload (pc := 120) hx hb dX8_lateBy_120 (lv_at hl 5 rfl) ?_
  refine x_iald (pc := 122) C S 3 rfl hv1 dX8_lateBy_122 ?_
  refine lv_iload (pc := 123) hx hb dX8_lateBy_123 (lv_at hl 0 rfl) ?_
  refine lv_isub (pc := 125) hx hb dX8_lateBy_125 ?_
  refine lv_iadd (pc := 126) hx hb dX8_lateBy_126 ?_
  refine x_put (pc := 127) (ci := 8) (T := TX8) (ws' := (w_X8_lateBy G a_t a_t_s a_t_image a_t_mind a_t_aside a_t_text a_t_read a_t_comes a_t_begins a_t_latest a_t_move a_t_sort a_t_items a_t_cell a_t_carried t_isKept t_work t_kind t_letters t_at t_fault t_back (t_waits + (((upd t_begins x6.toNatClampNeg (mmax (y0 + y1) r2)) x6.toNatClampNeg) - (y0 + y1))) t_miles t_loads t_bestRound t_bestPlace t_bestAdds t_regret t_z t_s (upd t_comes x6.toNatClampNeg (y0 + y1)) (upd t_begins x6.toNatClampNeg (mmax (y0 + y1) r2)))) C S tyX8 tyX8_ok nmX8 0 rfl rfl inlX8 16 (by decide) rfl qf_8_91 rfl rfl rfl rfl (Nat.le_of_ble_eq_true rfl) rfl dX8_lateBy_127 (fun H locs S => ?_)
  refine lv_aload_n (pc := 130) hx hb dX8_lateBy_130 rfl (lv_at hl 1 rfl) ?_
  refine lv_dup (pc := 131) hx hb dX8_lateBy_131 rfl ?_
  refine x_get (pc := 132) (ci := 8) (T := TX8) (v := .int t_loads) C S 0 rfl rfl inlX8 18 (by decide) rfl qf_8_95 rfl dX8_lateBy_132 ?_
  refine lv_aload_n (pc := 135) hx hb dX8_lateBy_135 rfl (lv_at hl 1 rfl) ?_
  refine lv_iload (pc := 136) hx hb dX8_lateBy_136 (lv_at hl 6 rfl) ?_
  refine lv_iconst (pc := 138) hx hb dX8_lateBy_138 ic_2 ?_
  obtain ⟨r3, hq3, hf⟩ := bd_e hf
  refine x_vI (pc := 139) (As := [.int x7, .int (2 : Int32)]) (rest := [.int t_loads, .ref a_t]) (isC := [0, 1]) (ws' := (w_X8_lateBy G a_t a_t_s a_t_image a_t_mind a_t_aside a_t_text a_t_read a_t_comes a_t_begins a_t_latest a_t_move a_t_sort a_t_items a_t_cell a_t_carried t_isKept t_work t_kind t_letters t_at t_fault t_back (t_waits + (((upd t_begins x6.toNatClampNeg (mmax (y0 + y1) r2)) x6.toNatClampNeg) - (y0 + y1))) t_miles t_loads t_bestRound t_bestPlace t_bestAdds t_regret t_z t_s (upd t_comes x6.toNatClampNeg (y0 + y1)) (upd t_begins x6.toNatClampNeg (mmax (y0 + y1) r2)))) C S (c_X8_stopAt l G a_t a_t_s a_t_image a_t_mind a_t_aside a_t_text a_t_read a_t_comes a_t_begins a_t_latest a_t_move a_t_sort a_t_items a_t_cell a_t_carried t_isKept t_work t_kind t_letters t_at t_fault t_back (t_waits + (((upd t_begins x6.toNatClampNeg (mmax (y0 + y1) r2)) x6.toNatClampNeg) - (y0 + y1))) t_miles t_loads t_bestRound t_bestPlace t_bestAdds t_regret t_z t_s x7 (2 : Int32) r3 hq3) (u_X8_lateBy_X8_stopAt_78 hts) (ci := 8) rfl 0 rfl rfl (by decide +kernel) [some 0, some 1, none, none] (by decide +kernel) rfl rfl rfl hl.1 rfl (Nat.le_of_ble_eq_true rfl) dX8_lateBy_139 (fun H locs S => ?_)
  refine lv_iadd (pc := 142) hx hb dX8_lateBy_142 ?_
  refine x_put (pc := 143) (ci := 8) (T := TX8) (ws' := (w_X8_lateBy G a_t a_t_s a_t_image a_t_mind a_t_aside a_t_text a_t_read a_t_comes a_t_begins a_t_latest a_t_move a_t_sort a_t_items a_t_cell a_t_carried t_isKept t_work t_kind t_letters t_at t_fault t_back (t_waits + (((upd t_begins x6.toNatClampNeg (mmax (y0 + y1) r2)) x6.toNatClampNeg) - (y0 + y1))) t_miles (t_loads + r3) t_bestRound t_bestPlace t_bestAdds t_regret t_z t_s (upd t_comes x6.toNatClampNeg (y0 + y1)) (upd t_begins x6.toNatClampNeg (mmax (y0 + y1) r2)))) C S tyX8 tyX8_ok nmX8 0 rfl rfl inlX8 18 (by decide) rfl qf_8_95 rfl rfl rfl rfl (Nat.le_of_ble_eq_true rfl) rfl dX8_lateBy_143 (fun H locs S => ?_)
  refine lv_aload_n (pc := 146) hx hb dX8_lateBy_146 rfl (lv_at hl 1 rfl) ?_
  refine x_get (pc := 147) (ci := 8) (T := TX8) (v := .ref a_t_begins) C S 0 rfl rfl inlX8 13 (by decide) rfl qf_8_33 rfl dX8_lateBy_147 ?_
  refine lv_iload (pc := 150) hx hb dX8_lateBy_150 (lv_at hl 5 rfl) ?_
  refine x_iald (pc := 152) C S 3 rfl hv1 dX8_lateBy_152 ?_
  refine lv_aload_n (pc := 153) hx hb dX8_lateBy_153 rfl (lv_at hl 1 rfl) ?_
  refine lv_iload (pc := 154) hx hb dX8_lateBy_154 (lv_at hl 6 rfl) ?_
  refine lv_iconst (pc := 156) hx hb dX8_lateBy_156 ic_4 ?_
  obtain ⟨r4, hq4, hf⟩ := bd_e hf
  refine x_vI (pc := 157) (As := [.int x7, .int (4 : Int32)]) (rest := [.int ((upd t_begins x6.toNatClampNeg (mmax (y0 + y1) r2)) x6.toNatClampNeg)]) (isC := [0, 1]) (ws' := (w_X8_lateBy G a_t a_t_s a_t_image a_t_mind a_t_aside a_t_text a_t_read a_t_comes a_t_begins a_t_latest a_t_move a_t_sort a_t_items a_t_cell a_t_carried t_isKept t_work t_kind t_letters t_at t_fault t_back (t_waits + (((upd t_begins x6.toNatClampNeg (mmax (y0 + y1) r2)) x6.toNatClampNeg) - (y0 + y1))) t_miles (t_loads + r3) t_bestRound t_bestPlace t_bestAdds t_regret t_z t_s (upd t_comes x6.toNatClampNeg (y0 + y1)) (upd t_begins x6.toNatClampNeg (mmax (y0 + y1) r2)))) C S (c_X8_stopAt l G a_t a_t_s a_t_image a_t_mind a_t_aside a_t_text a_t_read a_t_comes a_t_begins a_t_latest a_t_move a_t_sort a_t_items a_t_cell a_t_carried t_isKept t_work t_kind t_letters t_at t_fault t_back (t_waits + (((upd t_begins x6.toNatClampNeg (mmax (y0 + y1) r2)) x6.toNatClampNeg) - (y0 + y1))) t_miles (t_loads + r3) t_bestRound t_bestPlace t_bestAdds t_regret t_z t_s x7 (4 : Int32) r4 hq4) (u_X8_lateBy_X8_stopAt_78 hts) (ci := 8) rfl 0 rfl rfl (by decide +kernel) [some 0, some 1, none, none] (by decide +kernel) rfl rfl rfl hl.1 rfl (Nat.le_of_ble_eq_true rfl) dX8_lateBy_157 (fun H locs S => ?_)
  refine lv_icmp_le (tgt := 172) (pc := 160) hx hb dX8_lateBy_160 (by decide) (fun c5 => ?_) (fun c5 => ?_)
  · have hf := ifp c5 hf
    exact k_X8_lateBy_172 C (t_isKept) (t_work) (t_kind) (t_letters) (t_at) (t_fault) (t_back) ((t_waits + (((upd t_begins x6.toNatClampNeg (mmax (y0 + y1) r2)) x6.toNatClampNeg) - (y0 + y1)))) (t_miles) ((t_loads + r3)) (t_bestRound) (t_bestPlace) (t_bestAdds) (t_regret) (t_z) (t_s) ((upd t_comes x6.toNatClampNeg (y0 + y1))) ((upd t_begins x6.toNatClampNeg (mmax (y0 + y1) r2))) (x1) (x3) (x5) (x6) (x7) k34 hk34 hf S (lv_sub hl [1, 2, 3, 4, 5, 6] rfl)
  · have hf := ifn c5 hf
    refine lv_iload (pc := 163) hx hb dX8_lateBy_163 (lv_at hl 4 rfl) ?_
    refine lv_if_ge (tgt := 172) (pc := 165) hx hb dX8_lateBy_165 (by decide) (fun c6 => ?_) (fun c6 => ?_)
    · have hf := ifp c6 hf
      exact k_X8_lateBy_172 C (t_isKept) (t_work) (t_kind) (t_letters) (t_at) (t_fault) (t_back) ((t_waits + (((upd t_begins x6.toNatClampNeg (mmax (y0 + y1) r2)) x6.toNatClampNeg) - (y0 + y1)))) (t_miles) ((t_loads + r3)) (t_bestRound) (t_bestPlace) (t_bestAdds) (t_regret) (t_z) (t_s) ((upd t_comes x6.toNatClampNeg (y0 + y1))) ((upd t_begins x6.toNatClampNeg (mmax (y0 + y1) r2))) (x1) (x3) (x5) (x6) (x7) k34 hk34 hf S (lv_sub hl [1, 2, 3, 4, 5, 6] rfl)
    · have hf := ifn c6 hf
      refine lv_iload (pc := 168) hx hb dX8_lateBy_168 (lv_at hl 5 rfl) ?_
      refine lv_istore (pc := 170) (lv' := [(5, .int x6), (4, .int (y0 + y1)), (0, .ref a_t), (1, .int x1), (3, .int x3), (6, .int x6), (7, .int x7)]) hx hb dX8_lateBy_170 hl (by decide) rfl (fun ls hl => ?_)
      exact k_X8_lateBy_172 C (t_isKept) (t_work) (t_kind) (t_letters) (t_at) (t_fault) (t_back) ((t_waits + (((upd t_begins x6.toNatClampNeg (mmax (y0 + y1) r2)) x6.toNatClampNeg) - (y0 + y1)))) (t_miles) ((t_loads + r3)) (t_bestRound) (t_bestPlace) (t_bestAdds) (t_regret) (t_z) (t_s) ((upd t_comes x6.toNatClampNeg (y0 + y1))) ((upd t_begins x6.toNatClampNeg (mmax (y0 + y1) r2))) (x1) (x3) (x6) (x6) (x7) k34 hk34 hf S (lv_sub hl [2, 3, 4, 0, 5, 6] rfl)
set_option maxRecDepth 100000 in
set_option maxHeartbeats 4000000 in
theorem k_X8_lateBy_34 (C : Cx p s m args meth c cX8_lateBy (some .int) 8 RX8 G A) (t_isKept : Int32) (t_work : Int32) (t_kind : Int32) (t_letters : Int32) (t_at : Int32) (t_fault : Int32) (t_back : Int32) (t_waits : Int32) (t_miles : Int32) (t_loads : Int32) (t_bestRound : Int32) (t_bestPlace : Int32) (t_bestAdds : Int32) (t_regret : Int32) (t_z : Int32) (t_s : Nat → Int32) (t_comes : Nat → Int32) (t_begins : Nat → Int32) (x1 : Int32) (x3 : Int32) (x4 : Int32) (x5 : Int32) (x6 : Int32) (k34 : Int32 × Int32 × Int32 × (Nat → Int32) × (Nat → Int32) × Int32 × Int32 → Option (Int32 × (Nat → Int32) × (Nat → Int32) × Int32 × Int32 × Int32)) (hk34 : ∀ {H : Heap} {locs : List Loc} {ls : Array Slot} (x4' : Int32) (x5' : Int32) (x6' : Int32) (t_comes' : Nat → Int32) (t_begins' : Nat → Int32) (t_waits' : Int32) (t_loads' : Int32), k34 (x4', x5', x6', t_comes', t_begins', t_waits', t_loads') = some (r, z_t_comes, z_t_begins, z_t_back, z_t_waits, z_t_loads) → St G A s.heap H locs (w_X8_lateBy G a_t a_t_s a_t_image a_t_mind a_t_aside a_t_text a_t_read a_t_comes a_t_begins a_t_latest a_t_move a_t_sort a_t_items a_t_cell a_t_carried t_isKept t_work t_kind t_letters t_at t_fault t_back t_waits' t_miles t_loads' t_bestRound t_bestPlace t_bestAdds t_regret t_z t_s t_comes' t_begins') → lv_has ls 8 [(0, .ref a_t), (1, .int x1), (3, .int x3), (4, .int x4'), (5, .int x5'), (6, .int x6')] → W p l e rm_X8_lateBy s m args below meth c H locs 0 0 (QI G below args s A r (w_X8_lateBy G a_t a_t_s a_t_image a_t_mind a_t_aside a_t_text a_t_read a_t_comes a_t_begins a_t_latest a_t_move a_t_sort a_t_items a_t_cell a_t_carried t_isKept t_work t_kind t_letters t_at t_fault z_t_back z_t_waits t_miles z_t_loads t_bestRound t_bestPlace t_bestAdds t_regret t_z t_s z_t_comes z_t_begins)) (F0 m 34 ls [])) {H : Heap} {locs : List Loc} {ls : Array Slot} (hf : b_X8_lateBy_34 x1 x3 t_s k34 x4 x5 x6 t_comes t_begins t_waits t_loads = some (r, z_t_comes, z_t_begins, z_t_back, z_t_waits, z_t_loads)) (S : St G A s.heap H locs (w_X8_lateBy G a_t a_t_s a_t_image a_t_mind a_t_aside a_t_text a_t_read a_t_comes a_t_begins a_t_latest a_t_move a_t_sort a_t_items a_t_cell a_t_carried t_isKept t_work t_kind t_letters t_at t_fault t_back t_waits t_miles t_loads t_bestRound t_bestPlace t_bestAdds t_regret t_z t_s t_comes t_begins)) (hl : lv_has ls 8 [(0, .ref a_t), (1, .int x1), (3, .int x3), (4, .int x4), (5, .int x5), (6, .int x6)]) : W p l e rm_X8_lateBy s m args below meth c H locs 0 0 (QI G below args s A r (w_X8_lateBy G a_t a_t_s a_t_image a_t_mind a_t_aside a_t_text a_t_read a_t_comes a_t_begins a_t_latest a_t_move a_t_sort a_t_items a_t_cell a_t_carried t_isKept t_work t_kind t_letters t_at t_fault z_t_back z_t_waits t_miles z_t_loads t_bestRound t_bestPlace t_bestAdds t_regret t_z t_s z_t_comes z_t_begins)) (F0 m 34 ls []) := by
  unfold b_X8_lateBy_34 at hf
  have hx := C.1
  have hb := C.2.1
  have hown := C.2.2.2.2.1
  have hts := C.2.2.2.2.2.1
  have hN := C.2.2.2.2.2.2.2.2.2.2
  refine lv_iload (pc := 34) hx hb dX8_lateBy_34 (lv_at hl 5 rfl) ?_
  refine lv_iload_n (pc := 36) hx hb dX8_lateBy_36 rfl (lv_at hl 2 rfl) ?_
  refine lv_icmp_ge (tgt := 195) (pc := 37) hx hb dX8_lateBy_37 (by decide) (fun c1 => ?_) (fun c1 => ?_)
  · have hf := ifp c1 hf
    refine lv_aload_n (pc := 195) hx hb dX8_lateBy_195 rfl (lv_at hl 0 rfl) ?_
    refine lv_iload_n (pc := 196) hx hb dX8_lateBy_196 rfl (lv_at hl 2 rfl) ?_
    refine lv_if_ne (tgt := 209) (pc := 197) hx hb dX8_lateBy_197 (by decide) (fun c2 => ?_) (fun c2 => ?_)
    · have hf := ifn c2 hf
      refine lv_iload (pc := 209) hx hb dX8_lateBy_209 (lv_at hl 3 rfl) ?_
      refine lv_aload_n (pc := 211) hx hb dX8_lateBy_211 rfl (lv_at hl 0 rfl) ?_
      refine lv_aload_n (pc := 212) hx hb dX8_lateBy_212 rfl (lv_at hl 0 rfl) ?_
      refine lv_iload_n (pc := 213) hx hb dX8_lateBy_213 rfl (lv_at hl 1 rfl) ?_
      refine lv_iload_n (pc := 214) hx hb dX8_lateBy_214 rfl (lv_at hl 2 rfl) ?_
      refine lv_iconst (pc := 215) hx hb dX8_lateBy_215 ic_1 ?_
      refine lv_isub (pc := 216) hx hb dX8_lateBy_216 ?_
      obtain ⟨r3, hq3, hf⟩ := bd_e hf
      refine x_vI (pc := 217) (As := [.int x1, .int (x3 - (1 : Int32))]) (rest := [.ref a_t, .int x4, .ref a_t]) (isC := [0, 1]) (ws' := (w_X8_lateBy G a_t a_t_s a_t_image a_t_mind a_t_aside a_t_text a_t_read a_t_comes a_t_begins a_t_latest a_t_move a_t_sort a_t_items a_t_cell a_t_carried t_isKept t_work t_kind t_letters t_at t_fault t_back t_waits t_miles t_loads t_bestRound t_bestPlace t_bestAdds t_regret t_z t_s t_comes t_begins)) C S (c_X8_inRow l G a_t a_t_s a_t_image a_t_mind a_t_aside a_t_text a_t_read a_t_comes a_t_begins a_t_latest a_t_move a_t_sort a_t_items a_t_cell a_t_carried t_isKept t_work t_kind t_letters t_at t_fault t_back t_waits t_miles t_loads t_bestRound t_bestPlace t_bestAdds t_regret t_z t_s x1 (x3 - (1 : Int32)) r3 hq3) (u_X8_lateBy_X8_inRow_63 hts) (ci := 8) rfl 0 rfl rfl (by decide +kernel) [some 0, some 1, none, none] (by decide +kernel) rfl rfl rfl hl.1 rfl (Nat.le_of_ble_eq_true rfl) dX8_lateBy_217 (fun H locs S => ?_)
      obtain ⟨r4, hq4, hf⟩ := bd_e hf
      refine x_vI (pc := 220) (As := [.int r3]) (rest := [.int x4, .ref a_t]) (isC := [0, 1]) (ws' := (w_X8_lateBy G a_t a_t_s a_t_image a_t_mind a_t_aside a_t_text a_t_read a_t_comes a_t_begins a_t_latest a_t_move a_t_sort a_t_items a_t_cell a_t_carried t_isKept t_work t_kind t_letters t_at t_fault t_back t_waits t_miles t_loads t_bestRound t_bestPlace t_bestAdds t_regret t_z t_s t_comes t_begins)) C S (c_X8_fromDepot l G a_t a_t_s a_t_image a_t_mind a_t_aside a_t_text a_t_read a_t_comes a_t_begins a_t_latest a_t_move a_t_sort a_t_items a_t_cell a_t_carried t_isKept t_work t_kind t_letters t_at t_fault t_back t_waits t_miles t_loads t_bestRound t_bestPlace t_bestAdds t_regret t_z t_s r3 r4 hq4) (u_X8_lateBy_X8_fromDepot_85 hts) (ci := 8) rfl 0 rfl rfl (by decide +kernel) [some 0, some 1, none, none] (by decide +kernel) rfl rfl rfl hl.1 rfl (Nat.le_of_ble_eq_true rfl) dX8_lateBy_220 (fun H locs S => ?_)
      refine lv_iadd (pc := 223) hx hb dX8_lateBy_223 ?_
      exact k_X8_lateBy_224 C (t_isKept) (t_work) (t_kind) (t_letters) (t_at) (t_fault) (t_back) (t_waits) (t_miles) (t_loads) (t_bestRound) (t_bestPlace) (t_bestAdds) (t_regret) (t_z) (t_s) (t_comes) (t_begins) (x1) (x3) (x5) ((x4 + r4)) hf S (lv_sub hl [0, 1, 2, 4] rfl)
    · have hf := ifp c2 hf
      refine lv_aload_n (pc := 200) hx hb dX8_lateBy_200 rfl (lv_at hl 0 rfl) ?_
      refine lv_iload_n (pc := 201) hx hb dX8_lateBy_201 rfl (lv_at hl 1 rfl) ?_
      refine lv_iconst (pc := 202) hx hb dX8_lateBy_202 ic_1 ?_
      obtain ⟨r5, hq5, hf⟩ := bd_e hf
      refine x_vI (pc := 203) (As := [.int x1, .int (1 : Int32)]) (rest := [.ref a_t]) (isC := [0, 1]) (ws' := (w_X8_lateBy G a_t a_t_s a_t_image a_t_mind a_t_aside a_t_text a_t_read a_t_comes a_t_begins a_t_latest a_t_move a_t_sort a_t_items a_t_cell a_t_carried t_isKept t_work t_kind t_letters t_at t_fault t_back t_waits t_miles t_loads t_bestRound t_bestPlace t_bestAdds t_regret t_z t_s t_comes t_begins)) C S (c_X8_roundAt l G a_t a_t_s a_t_image a_t_mind a_t_aside a_t_text a_t_read a_t_comes a_t_begins a_t_latest a_t_move a_t_sort a_t_items a_t_cell a_t_carried t_isKept t_work t_kind t_letters t_at t_fault t_back t_waits t_miles t_loads t_bestRound t_bestPlace t_bestAdds t_regret t_z t_s x1 (1 : Int32) r5 hq5) (u_X8_lateBy_X8_roundAt_59 hts) (ci := 8) rfl 0 rfl rfl (by decide +kernel) [some 0, some 1, none, none] (by decide +kernel) rfl rfl rfl hl.1 rfl (Nat.le_of_ble_eq_true rfl) dX8_lateBy_203 (fun H locs S => ?_)
      refine lv_goto (tgt := 224) (pc := 206) hx hb dX8_lateBy_206 (by decide) ?_
      exact k_X8_lateBy_224 C (t_isKept) (t_work) (t_kind) (t_letters) (t_at) (t_fault) (t_back) (t_waits) (t_miles) (t_loads) (t_bestRound) (t_bestPlace) (t_bestAdds) (t_regret) (t_z) (t_s) (t_comes) (t_begins) (x1) (x3) (x5) (r5) hf S (lv_sub hl [0, 1, 2, 4] rfl)
  · have hf := ifn c1 hf
    refine lv_aload_n (pc := 40) hx hb dX8_lateBy_40 rfl (lv_at hl 0 rfl) ?_
    refine lv_iload_n (pc := 41) hx hb dX8_lateBy_41 rfl (lv_at hl 1 rfl) ?_
    refine lv_iload (pc := 42) hx hb dX8_lateBy_42 (lv_at hl 5 rfl) ?_
    obtain ⟨r6, hq6, hf⟩ := bd_e hf
    refine x_vI (pc := 44) (As := [.int x1, .int x6]) (rest := []) (isC := [0, 1]) (ws' := (w_X8_lateBy G a_t a_t_s a_t_image a_t_mind a_t_aside a_t_text a_t_read a_t_comes a_t_begins a_t_latest a_t_move a_t_sort a_t_items a_t_cell a_t_carried t_isKept t_work t_kind t_letters t_at t_fault t_back t_waits t_miles t_loads t_bestRound t_bestPlace t_bestAdds t_regret t_z t_s t_comes t_begins)) C S (c_X8_inRow l G a_t a_t_s a_t_image a_t_mind a_t_aside a_t_text a_t_read a_t_comes a_t_begins a_t_latest a_t_move a_t_sort a_t_items a_t_cell a_t_carried t_isKept t_work t_kind t_letters t_at t_fault t_back t_waits t_miles t_loads t_bestRound t_bestPlace t_bestAdds t_regret t_z t_s x1 x6 r6 hq6) (u_X8_lateBy_X8_inRow_63 hts) (ci := 8) rfl 0 rfl rfl (by decide +kernel) [some 0, some 1, none, none] (by decide +kernel) rfl rfl rfl hl.1 rfl (Nat.le_of_ble_eq_true rfl) dX8_lateBy_44 (fun H locs S => ?_)
    refine lv_istore (pc := 47) (lv' := [(7, .int r6), (0, .ref a_t), (1, .int x1), (3, .int x3), (4, .int x4), (5, .int x5), (6, .int x6)]) hx hb dX8_lateBy_47 hl (by decide) rfl (fun ls hl => ?_)
    refine lv_iload (pc := 49) hx hb dX8_lateBy_49 (lv_at hl 4 rfl) ?_
    refine lv_iload (pc := 51) hx hb dX8_lateBy_51 (lv_at hl 6 rfl) ?_
    refine lv_if_ne (tgt := 65) (pc := 53) hx hb dX8_lateBy_53 (by decide) (fun c7 => ?_) (fun c7 => ?_)
    · have hf := ifn c7 hf
      refine lv_aload_n (pc := 65) hx hb dX8_lateBy_65 rfl (lv_at hl 1 rfl) ?_
      refine lv_aload_n (pc := 66) hx hb dX8_lateBy_66 rfl (lv_at hl 1 rfl) ?_
      refine lv_iload_n (pc := 67) hx hb dX8_lateBy_67 rfl (lv_at hl 2 rfl) ?_
      refine lv_iload (pc := 68) hx hb dX8_lateBy_68 (lv_at hl 6 rfl) ?_
      refine lv_iconst (pc := 70) hx hb dX8_lateBy_70 ic_1 ?_
      refine lv_isub (pc := 71) hx hb dX8_lateBy_71 ?_
      obtain ⟨r8, hq8, hf⟩ := bd_e hf
      refine x_vI (pc := 72) (As := [.int x1, .int (x6 - (1 : Int32))]) (rest := [.ref a_t, .int x4]) (isC := [0, 1]) (ws' := (w_X8_lateBy G a_t a_t_s a_t_image a_t_mind a_t_aside a_t_text a_t_read a_t_comes a_t_begins a_t_latest a_t_move a_t_sort a_t_items a_t_cell a_t_carried t_isKept t_work t_kind t_letters t_at t_fault t_back t_waits t_miles t_loads t_bestRound t_bestPlace t_bestAdds t_regret t_z t_s t_comes t_begins)) C S (c_X8_inRow l G a_t a_t_s a_t_image a_t_mind a_t_aside a_t_text a_t_read a_t_comes a_t_begins a_t_latest a_t_move a_t_sort a_t_items a_t_cell a_t_carried t_isKept t_work t_kind t_letters t_at t_fault t_back t_waits t_miles t_loads t_bestRound t_bestPlace t_bestAdds t_regret t_z t_s x1 (x6 - (1 : Int32)) r8 hq8) (u_X8_lateBy_X8_inRow_63 hts) (ci := 8) rfl 0 rfl rfl (by decide +kernel) [some 0, some 1, none, none] (by decide +kernel) rfl rfl rfl hl.1 rfl (Nat.le_of_ble_eq_true rfl) dX8_lateBy_72 (fun H locs S => ?_)
      refine lv_iload (pc := 75) hx hb dX8_lateBy_75 (lv_at hl 0 rfl) ?_
      obtain ⟨r9, hq9, hf⟩ := bd_e hf
      refine x_vI (pc := 77) (As := [.int r8, .int r6]) (rest := [.int x4]) (isC := [0, 1]) (ws' := (w_X8_lateBy G a_t a_t_s a_t_image a_t_mind a_t_aside a_t_text a_t_read a_t_comes a_t_begins a_t_latest a_t_move a_t_sort a_t_items a_t_cell a_t_carried t_isKept t_work t_kind t_letters t_at t_fault t_back t_waits t_miles t_loads t_bestRound t_bestPlace t_bestAdds t_regret t_z t_s t_comes t_begins)) C S (c_X8_between l G a_t a_t_s a_t_image a_t_mind a_t_aside a_t_text a_t_read a_t_comes a_t_begins a_t_latest a_t_move a_t_sort a_t_items a_t_cell a_t_carried t_isKept t_work t_kind t_letters t_at t_fault t_back t_waits t_miles t_loads t_bestRound t_bestPlace t_bestAdds t_regret t_z t_s r8 r6 r9 hq9) (u_X8_lateBy_X8_between_88 hts) (ci := 8) rfl 0 rfl rfl (by decide +kernel) [some 0, some 1, none, none] (by decide +kernel) rfl rfl rfl hl.1 rfl (Nat.le_of_ble_eq_true rfl) dX8_lateBy_77 (fun H locs S => ?_)
      exact k_X8_lateBy_80 C (t_isKept) (t_work) (t_kind) (t_letters) (t_at) (t_fault) (t_back) (t_waits) (t_miles) (t_loads) (t_bestRound) (t_bestPlace) (t_bestAdds) (t_regret) (t_z) (t_s) (t_comes) (t_begins) (x1) (x3) (x5) (x6) (r6) (x4) (r9) k34 hk34 hf S (lv_sub hl [1, 2, 3, 5, 6, 0] rfl)
    · have hf := ifp c7 hf
      refine lv_aload_n (pc := 56) hx hb dX8_lateBy_56 rfl (lv_at hl 1 rfl) ?_
      refine lv_iload (pc := 57) hx hb dX8_lateBy_57 (lv_at hl 0 rfl) ?_
      obtain ⟨r10, hq10, hf⟩ := bd_e hf
      refine x_vI (pc := 59) (As := [.int r6]) (rest := [.int x4]) (isC := [0, 1]) (ws' := (w_X8_lateBy G a_t a_t_s a_t_image a_t_mind a_t_aside a_t_text a_t_read a_t_comes a_t_begins a_t_latest a_t_move a_t_sort a_t_items a_t_cell a_t_carried t_isKept t_work t_kind t_letters t_at t_fault t_back t_waits t_miles t_loads t_bestRound t_bestPlace t_bestAdds t_regret t_z t_s t_comes t_begins)) C S (c_X8_fromDepot l G a_t a_t_s a_t_image a_t_mind a_t_aside a_t_text a_t_read a_t_comes a_t_begins a_t_latest a_t_move a_t_sort a_t_items a_t_cell a_t_carried t_isKept t_work t_kind t_letters t_at t_fault t_back t_waits t_miles t_loads t_bestRound t_bestPlace t_bestAdds t_regret t_z t_s r6 r10 hq10) (u_X8_lateBy_X8_fromDepot_85 hts) (ci := 8) rfl 0 rfl rfl (by decide +kernel) [some 0, some 1, none, none] (by decide +kernel) rfl rfl rfl hl.1 rfl (Nat.le_of_ble_eq_true rfl) dX8_lateBy_59 (fun H locs S => ?_)
      refine lv_goto (tgt := 80) (pc := 62) hx hb dX8_lateBy_62 (by decide) ?_
      exact k_X8_lateBy_80 C (t_isKept) (t_work) (t_kind) (t_letters) (t_at) (t_fault) (t_back) (t_waits) (t_miles) (t_loads) (t_bestRound) (t_bestPlace) (t_bestAdds) (t_regret) (t_z) (t_s) (t_comes) (t_begins) (x1) (x3) (x5) (x6) (r6) (x4) (r10) k34 hk34 hf S (lv_sub hl [1, 2, 3, 5, 6, 0] rfl)
set_option maxRecDepth 100000 in
set_option maxHeartbeats 4000000 in
theorem h_X8_lateBy_34 (C : Cx p s m args meth c cX8_lateBy (some .int) 8 RX8 G A) (t_isKept : Int32) (t_work : Int32) (t_kind : Int32) (t_letters : Int32) (t_at : Int32) (t_fault : Int32) (t_back : Int32) (t_miles : Int32) (t_bestRound : Int32) (t_bestPlace : Int32) (t_bestAdds : Int32) (t_regret : Int32) (t_z : Int32) (t_s : Nat → Int32) (x1 : Int32) (x3 : Int32) : ∀ (n : Nat) (x4 : Int32) (x5 : Int32) (x6 : Int32) (t_comes : Nat → Int32) (t_begins : Nat → Int32) (t_waits : Int32) (t_loads : Int32) {H : Heap} {locs : List Loc} {ls : Array Slot} (hf : lp (fun k x => b_X8_lateBy_34 x1 x3 t_s k x.1 x.2.1 x.2.2.1 x.2.2.2.1 x.2.2.2.2.1 x.2.2.2.2.2.1 x.2.2.2.2.2.2) n (x4, x5, x6, t_comes, t_begins, t_waits, t_loads) = some (r, z_t_comes, z_t_begins, z_t_back, z_t_waits, z_t_loads)) (S : St G A s.heap H locs (w_X8_lateBy G a_t a_t_s a_t_image a_t_mind a_t_aside a_t_text a_t_read a_t_comes a_t_begins a_t_latest a_t_move a_t_sort a_t_items a_t_cell a_t_carried t_isKept t_work t_kind t_letters t_at t_fault t_back t_waits t_miles t_loads t_bestRound t_bestPlace t_bestAdds t_regret t_z t_s t_comes t_begins)) (hl : lv_has ls 8 [(0, .ref a_t), (1, .int x1), (3, .int x3), (4, .int x4), (5, .int x5), (6, .int x6)]), W p l e rm_X8_lateBy s m args below meth c H locs 0 0 (QI G below args s A r (w_X8_lateBy G a_t a_t_s a_t_image a_t_mind a_t_aside a_t_text a_t_read a_t_comes a_t_begins a_t_latest a_t_move a_t_sort a_t_items a_t_cell a_t_carried t_isKept t_work t_kind t_letters t_at t_fault z_t_back z_t_waits t_miles z_t_loads t_bestRound t_bestPlace t_bestAdds t_regret t_z t_s z_t_comes z_t_begins)) (F0 m 34 ls []) := by
  intro n
  induction n with
  | zero =>
    intro x4 x5 x6 t_comes t_begins t_waits t_loads  H locs ls hf
    cases hf
  | succ n ih =>
    intro x4 x5 x6 t_comes t_begins t_waits t_loads  H locs ls hf S hl
    have hf : b_X8_lateBy_34 x1 x3 t_s (lp (fun k x => b_X8_lateBy_34 x1 x3 t_s k x.1 x.2.1 x.2.2.1 x.2.2.2.1 x.2.2.2.2.1 x.2.2.2.2.2.1 x.2.2.2.2.2.2) n) x4 x5 x6 t_comes t_begins t_waits t_loads = some (r, z_t_comes, z_t_begins, z_t_back, z_t_waits, z_t_loads) := hf
    exact k_X8_lateBy_34 C t_isKept t_work t_kind t_letters t_at t_fault t_back t_waits t_miles t_loads t_bestRound t_bestPlace t_bestAdds t_regret t_z t_s t_comes t_begins x1 x3 x4 x5 x6  (lp (fun k x => b_X8_lateBy_34 x1 x3 t_s k x.1 x.2.1 x.2.2.1 x.2.2.2.1 x.2.2.2.2.1 x.2.2.2.2.2.1 x.2.2.2.2.2.2) n) (fun x4' x5' x6' t_comes' t_begins' t_waits' t_loads'  h S hl => ih x4' x5' x6' t_comes' t_begins' t_waits' t_loads'  h S hl) hf S hl
set_option maxRecDepth 100000 in
set_option maxHeartbeats 4000000 in
theorem c_X8_lateBy (l : Launch) (G : GE) (a_t a_t_s a_t_image a_t_mind a_t_aside a_t_text a_t_read a_t_comes a_t_begins a_t_latest a_t_move a_t_sort a_t_items a_t_cell a_t_carried : Nat) (t_isKept : Int32) (t_work : Int32) (t_kind : Int32) (t_letters : Int32) (t_at : Int32) (t_fault : Int32) (t_back : Int32) (t_waits : Int32) (t_miles : Int32) (t_loads : Int32) (t_bestRound : Int32) (t_bestPlace : Int32) (t_bestAdds : Int32) (t_regret : Int32) (t_z : Int32) (t_s : Nat → Int32) (t_comes : Nat → Int32) (t_begins : Nat → Int32) (x1 : Int32) (x2 : Int32) (r : Int32) (z_t_comes : Nat → Int32) (z_t_begins : Nat → Int32) (z_t_back : Int32) (z_t_waits : Int32) (z_t_loads : Int32) (hf : f_X8_lateBy t_s t_comes t_begins x1 x2 = some (r, z_t_comes, z_t_begins, z_t_back, z_t_waits, z_t_loads)) : CI l G yX8_lateBy kw_X8_lateBy rm_X8_lateBy [.ref a_t, .int x1, .int x2] (w_X8_lateBy G a_t a_t_s a_t_image a_t_mind a_t_aside a_t_text a_t_read a_t_comes a_t_begins a_t_latest a_t_move a_t_sort a_t_items a_t_cell a_t_carried t_isKept t_work t_kind t_letters t_at t_fault t_back t_waits t_miles t_loads t_bestRound t_bestPlace t_bestAdds t_regret t_z t_s t_comes t_begins) r (w_X8_lateBy G a_t a_t_s a_t_image a_t_mind a_t_aside a_t_text a_t_read a_t_comes a_t_begins a_t_latest a_t_move a_t_sort a_t_items a_t_cell a_t_carried t_isKept t_work t_kind t_letters t_at t_fault z_t_back z_t_waits t_miles z_t_loads t_bestRound t_bestPlace t_bestAdds t_regret t_z t_s z_t_comes z_t_begins) := by
  refine en_I (cc := cX8_lateBy) (maxL := 8) (ret := (some .int)) (by decide +kernel) (Nat.le_of_ble_eq_true rfl) ?_
  intro p e s m args below meth c A ls C S hl
  have hl : lv_has ls 8 [(0, .ref a_t), (1, .int x1), (2, .int x2)] := hl
  have C : Cx p s m args meth c cX8_lateBy (some .int) 8 RX8 G A := C
  unfold f_X8_lateBy at hf
  have hx := C.1
  have hb := C.2.1
  have hown := C.2.2.2.2.1
  have hts := C.2.2.2.2.2.1
  have hN := C.2.2.2.2.2.2.2.2.2.2
  refine lv_aload_n (pc := 0) hx hb dX8_lateBy_0 rfl (lv_at hl 0 rfl) ?_
  refine lv_iload_n (pc := 1) hx hb dX8_lateBy_1 rfl (lv_at hl 1 rfl) ?_
  refine lv_iconst (pc := 2) hx hb dX8_lateBy_2 ic_3 ?_
  obtain ⟨r1, hq1, hf⟩ := bd_e hf
  refine x_vI (pc := 3) (As := [.int x1, .int (3 : Int32)]) (rest := []) (isC := [0, 1]) (ws' := (w_X8_lateBy G a_t a_t_s a_t_image a_t_mind a_t_aside a_t_text a_t_read a_t_comes a_t_begins a_t_latest a_t_move a_t_sort a_t_items a_t_cell a_t_carried t_isKept t_work t_kind t_letters t_at t_fault t_back t_waits t_miles t_loads t_bestRound t_bestPlace t_bestAdds t_regret t_z t_s t_comes t_begins)) C S (c_X8_roundAt l G a_t a_t_s a_t_image a_t_mind a_t_aside a_t_text a_t_read a_t_comes a_t_begins a_t_latest a_t_move a_t_sort a_t_items a_t_cell a_t_carried t_isKept t_work t_kind t_letters t_at t_fault t_back t_waits t_miles t_loads t_bestRound t_bestPlace t_bestAdds t_regret t_z t_s x1 (3 : Int32) r1 hq1) (u_X8_lateBy_X8_roundAt_59 hts) (ci := 8) rfl 0 rfl rfl (by decide +kernel) [some 0, some 1, none, none] (by decide +kernel) rfl rfl rfl hl.1 rfl (Nat.le_of_ble_eq_true rfl) dX8_lateBy_3 (fun H locs S => ?_)
  refine lv_istore_n (pc := 6) (lv' := [(3, .int r1), (0, .ref a_t), (1, .int x1), (2, .int x2)]) hx hb dX8_lateBy_6 rfl hl (by decide) rfl (fun ls hl => ?_)
  refine lv_aload_n (pc := 7) hx hb dX8_lateBy_7 rfl (lv_at hl 1 rfl) ?_
  refine lv_iload_n (pc := 8) hx hb dX8_lateBy_8 rfl (lv_at hl 2 rfl) ?_
  refine lv_iconst (pc := 9) hx hb dX8_lateBy_9 ic_1 ?_
  obtain ⟨r2, hq2, hf⟩ := bd_e hf
  refine x_vI (pc := 10) (As := [.int x1, .int (1 : Int32)]) (rest := []) (isC := [0, 1]) (ws' := (w_X8_lateBy G a_t a_t_s a_t_image a_t_mind a_t_aside a_t_text a_t_read a_t_comes a_t_begins a_t_latest a_t_move a_t_sort a_t_items a_t_cell a_t_carried t_isKept t_work t_kind t_letters t_at t_fault t_back t_waits t_miles t_loads t_bestRound t_bestPlace t_bestAdds t_regret t_z t_s t_comes t_begins)) C S (c_X8_roundAt l G a_t a_t_s a_t_image a_t_mind a_t_aside a_t_text a_t_read a_t_comes a_t_begins a_t_latest a_t_move a_t_sort a_t_items a_t_cell a_t_carried t_isKept t_work t_kind t_letters t_at t_fault t_back t_waits t_miles t_loads t_bestRound t_bestPlace t_bestAdds t_regret t_z t_s x1 (1 : Int32) r2 hq2) (u_X8_lateBy_X8_roundAt_59 hts) (ci := 8) rfl 0 rfl rfl (by decide +kernel) [some 0, some 1, none, none] (by decide +kernel) rfl rfl rfl hl.1 rfl (Nat.le_of_ble_eq_true rfl) dX8_lateBy_10 (fun H locs S => ?_)
  refine lv_iload_n (pc := 13) hx hb dX8_lateBy_13 rfl (lv_at hl 3 rfl) ?_
  refine lv_iadd (pc := 14) hx hb dX8_lateBy_14 ?_
  refine lv_istore (pc := 15) (lv' := [(4, .int (r2 + x2)), (3, .int r1), (0, .ref a_t), (1, .int x1), (2, .int x2)]) hx hb dX8_lateBy_15 hl (by decide) rfl (fun ls hl => ?_)
  refine lv_bipush (pc := 17) hx hb dX8_lateBy_17 bc_m5 ?_
  refine lv_istore (pc := 19) (lv' := [(5, .int (-5 : Int32)), (4, .int (r2 + x2)), (3, .int r1), (0, .ref a_t), (1, .int x1), (2, .int x2)]) hx hb dX8_lateBy_19 hl (by decide) rfl (fun ls hl => ?_)
  refine lv_aload_n (pc := 21) hx hb dX8_lateBy_21 rfl (lv_at hl 3 rfl) ?_
  refine lv_iconst (pc := 22) hx hb dX8_lateBy_22 ic_0 ?_
  refine x_put (pc := 23) (ci := 8) (T := TX8) (ws' := (w_X8_lateBy G a_t a_t_s a_t_image a_t_mind a_t_aside a_t_text a_t_read a_t_comes a_t_begins a_t_latest a_t_move a_t_sort a_t_items a_t_cell a_t_carried t_isKept t_work t_kind t_letters t_at t_fault t_back (0 : Int32) t_miles t_loads t_bestRound t_bestPlace t_bestAdds t_regret t_z t_s t_comes t_begins)) C S tyX8 tyX8_ok nmX8 0 rfl rfl inlX8 16 (by decide) rfl qf_8_91 rfl rfl rfl rfl (Nat.le_of_ble_eq_true rfl) rfl dX8_lateBy_23 (fun H locs S => ?_)
  refine lv_aload_n (pc := 26) hx hb dX8_lateBy_26 rfl (lv_at hl 3 rfl) ?_
  refine lv_iconst (pc := 27) hx hb dX8_lateBy_27 ic_0 ?_
  refine x_put (pc := 28) (ci := 8) (T := TX8) (ws' := (w_X8_lateBy G a_t a_t_s a_t_image a_t_mind a_t_aside a_t_text a_t_read a_t_comes a_t_begins a_t_latest a_t_move a_t_sort a_t_items a_t_cell a_t_carried t_isKept t_work t_kind t_letters t_at t_fault t_back (0 : Int32) t_miles (0 : Int32) t_bestRound t_bestPlace t_bestAdds t_regret t_z t_s t_comes t_begins)) C S tyX8 tyX8_ok nmX8 0 rfl rfl inlX8 18 (by decide) rfl qf_8_95 rfl rfl rfl rfl (Nat.le_of_ble_eq_true rfl) rfl dX8_lateBy_28 (fun H locs S => ?_)
  refine lv_iconst (pc := 31) hx hb dX8_lateBy_31 ic_0 ?_
  refine lv_istore (pc := 32) (lv' := [(6, .int (0 : Int32)), (5, .int (-5 : Int32)), (4, .int (r2 + x2)), (3, .int r1), (0, .ref a_t), (1, .int x1), (2, .int x2)]) hx hb dX8_lateBy_32 hl (by decide) rfl (fun ls hl => ?_)
  exact h_X8_lateBy_34 C (t_isKept) (t_work) (t_kind) (t_letters) (t_at) (t_fault) (t_back) (t_miles) (t_bestRound) (t_bestPlace) (t_bestAdds) (t_regret) (t_z) (t_s) (x1) (r1) fu ((r2 + x2)) ((-5 : Int32)) ((0 : Int32)) (t_comes) (t_begins) ((0 : Int32)) ((0 : Int32)) hf S (lv_sub hl [4, 5, 3, 2, 1, 0] rfl)
end

abbrev rm_X8_holds : Room := { frames := 4, cells := 0, slots := 0, locals := 99 }
abbrev kw_X8_holds : Cond := .code yX8_holds cX8_holds 2 (some .boolean)
abbrev w_X8_holds (G : GE) (a_t a_t_s a_t_image a_t_mind a_t_aside a_t_text a_t_read a_t_comes a_t_begins a_t_latest a_t_move a_t_sort a_t_items a_t_cell a_t_carried : Nat) (t_isKept : Int32) (t_work : Int32) (t_kind : Int32) (t_letters : Int32) (t_at : Int32) (t_fault : Int32) (t_back : Int32) (t_waits : Int32) (t_miles : Int32) (t_loads : Int32) (t_bestRound : Int32) (t_bestPlace : Int32) (t_bestAdds : Int32) (t_regret : Int32) (t_z : Int32) (t_s : Nat → Int32) (t_comes : Nat → Int32) (t_begins : Nat → Int32) : va_W := [(a_t, ob 8 [.ref a_t_s, .ref a_t_image, .ref a_t_mind, .ref a_t_aside, .int t_isKept, .int t_work, .int t_kind, .ref a_t_text, .ref a_t_read, .int t_letters, .int t_at, .int t_fault, .ref a_t_comes, .ref a_t_begins, .ref a_t_latest, .int t_back, .int t_waits, .int t_miles, .int t_loads, .int t_bestRound, .int t_bestPlace, .int t_bestAdds, .int t_regret, .ref a_t_move, .ref a_t_sort, .ref a_t_items, .ref a_t_cell, .ref a_t_carried, .int t_z]), (a_t_s, aI G 258 t_s), (a_t_comes, aI G 16 t_comes), (a_t_begins, aI G 16 t_begins)]
theorem u_X8_holds_X8_roundAt_59 {s : State} {args : Array Value} (hts : ∀ w ∈ WU, w.before args s = true) : CallW rm_X8_holds s args RX8 RX8 59 yX8_roundAt cX8_roundAt 3 (some .int) (kw_X8_roundAt :: WU) rm_X8_roundAt 0 0 2 := cwV 2 hts (gV qm_8_59 qi_X8_roundAt ql_X8_roundAt qn_8 qc_X8_roundAt) rfl rfl rfl (by decide +kernel) ⟨Nat.le_of_ble_eq_true rfl, Nat.le_of_ble_eq_true rfl⟩
theorem u_X8_holds_X8_lateBy_101 {s : State} {args : Array Value} (hts : ∀ w ∈ WU, w.before args s = true) : CallW rm_X8_holds s args RX8 RX8 101 yX8_lateBy cX8_lateBy 8 (some .int) (kw_X8_lateBy :: WU) rm_X8_lateBy 0 0 2 := cwV 2 hts (gV qm_8_101 qi_X8_lateBy ql_X8_lateBy qn_8 qc_X8_lateBy) rfl rfl rfl (by decide +kernel) ⟨Nat.le_of_ble_eq_true rfl, Nat.le_of_ble_eq_true rfl⟩
section
variable {p : Program} {l : Launch} {e : Env} {s : State} {m : MethodId} {args : Array Value} {below : List Frame} {meth : Method} {c : Code} {A : Nat → Prop} {G : GE} {a_t a_t_s a_t_image a_t_mind a_t_aside a_t_text a_t_read a_t_comes a_t_begins a_t_latest a_t_move a_t_sort a_t_items a_t_cell a_t_carried : Nat} {r : Int32} {z_t_comes : Nat → Int32} {z_t_begins : Nat → Int32} {z_t_back : Int32} {z_t_waits : Int32} {z_t_loads : Int32}
set_option maxRecDepth 100000 in
set_option maxHeartbeats 4000000 in
theorem c_X8_holds (l : Launch) (G : GE) (a_t a_t_s a_t_image a_t_mind a_t_aside a_t_text a_t_read a_t_comes a_t_begins a_t_latest a_t_move a_t_sort a_t_items a_t_cell a_t_carried : Nat) (t_isKept : Int32) (t_work : Int32) (t_kind : Int32) (t_letters : Int32) (t_at : Int32) (t_fault : Int32) (t_back : Int32) (t_waits : Int32) (t_miles : Int32) (t_loads : Int32) (t_bestRound : Int32) (t_bestPlace : Int32) (t_bestAdds : Int32) (t_regret : Int32) (t_z : Int32) (t_s : Nat → Int32) (t_comes : Nat → Int32) (t_begins : Nat → Int32) (x1 : Int32) (r : Int32) (z_t_comes : Nat → Int32) (z_t_begins : Nat → Int32) (z_t_back : Int32) (z_t_waits : Int32) (z_t_loads : Int32) (hf : f_X8_holds t_s t_comes t_begins t_back t_waits t_loads x1 = some (r, z_t_comes, z_t_begins, z_t_back, z_t_waits, z_t_loads)) : CI l G yX8_holds kw_X8_holds rm_X8_holds [.ref a_t, .int x1] (w_X8_holds G a_t a_t_s a_t_image a_t_mind a_t_aside a_t_text a_t_read a_t_comes a_t_begins a_t_latest a_t_move a_t_sort a_t_items a_t_cell a_t_carried t_isKept t_work t_kind t_letters t_at t_fault t_back t_waits t_miles t_loads t_bestRound t_bestPlace t_bestAdds t_regret t_z t_s t_comes t_begins) r (w_X8_holds G a_t a_t_s a_t_image a_t_mind a_t_aside a_t_text a_t_read a_t_comes a_t_begins a_t_latest a_t_move a_t_sort a_t_items a_t_cell a_t_carried t_isKept t_work t_kind t_letters t_at t_fault z_t_back z_t_waits t_miles z_t_loads t_bestRound t_bestPlace t_bestAdds t_regret t_z t_s z_t_comes z_t_begins) := by
  refine en_I (cc := cX8_holds) (maxL := 2) (ret := (some .boolean)) (by decide +kernel) (Nat.le_of_ble_eq_true rfl) ?_
  intro p e s m args below meth c A ls C S hl
  have hl : lv_has ls 2 [(0, .ref a_t), (1, .int x1)] := hl
  have C : Cx p s m args meth c cX8_holds (some .boolean) 2 RX8 G A := C
  unfold f_X8_holds at hf
  have hx := C.1
  have hb := C.2.1
  have hown := C.2.2.2.2.1
  have hts := C.2.2.2.2.2.1
  have hN := C.2.2.2.2.2.2.2.2.2.2
  refine lv_aload_n (pc := 0) hx hb dX8_holds_0 rfl (lv_at hl 0 rfl) ?_
  refine lv_iload_n (pc := 1) hx hb dX8_holds_1 rfl (lv_at hl 1 rfl) ?_
  refine lv_iconst (pc := 2) hx hb dX8_holds_2 ic_3 ?_
  obtain ⟨r1, hq1, hf⟩ := bd_e hf
  refine x_vI (pc := 3) (As := [.int x1, .int (3 : Int32)]) (rest := []) (isC := [0, 1]) (ws' := (w_X8_holds G a_t a_t_s a_t_image a_t_mind a_t_aside a_t_text a_t_read a_t_comes a_t_begins a_t_latest a_t_move a_t_sort a_t_items a_t_cell a_t_carried t_isKept t_work t_kind t_letters t_at t_fault t_back t_waits t_miles t_loads t_bestRound t_bestPlace t_bestAdds t_regret t_z t_s t_comes t_begins)) C S (c_X8_roundAt l G a_t a_t_s a_t_image a_t_mind a_t_aside a_t_text a_t_read a_t_comes a_t_begins a_t_latest a_t_move a_t_sort a_t_items a_t_cell a_t_carried t_isKept t_work t_kind t_letters t_at t_fault t_back t_waits t_miles t_loads t_bestRound t_bestPlace t_bestAdds t_regret t_z t_s x1 (3 : Int32) r1 hq1) (u_X8_holds_X8_roundAt_59 hts) (ci := 8) rfl 0 rfl rfl (by decide +kernel) [some 0, some 1, none, none] (by decide +kernel) rfl rfl rfl hl.1 rfl (Nat.le_of_ble_eq_true rfl) dX8_holds_3 (fun H locs S => ?_)
  refine lv_if_eq (tgt := 31) (pc := 6) hx hb dX8_holds_6 (by decide) (fun c2 => ?_) (fun c2 => ?_)
  · have hf := ifp c2 hf
    refine lv_iconst (pc := 31) hx hb dX8_holds_31 ic_1 ?_
    refine lv_goto (tgt := 36) (pc := 32) hx hb dX8_holds_32 (by decide) ?_
    cases hf
    exact x_zret (pc := 36) (by decide) C S dX8_holds_36
  · have hf := ifn c2 hf
    refine lv_aload_n (pc := 9) hx hb dX8_holds_9 rfl (lv_at hl 0 rfl) ?_
    refine lv_iload_n (pc := 10) hx hb dX8_holds_10 rfl (lv_at hl 1 rfl) ?_
    refine lv_iconst (pc := 11) hx hb dX8_holds_11 ic_0 ?_
    obtain ⟨⟨r3, o3_t_comes, o3_t_begins, o3_t_back, o3_t_waits, o3_t_loads⟩, hq3, hf⟩ := bd_e hf
    refine x_vI (pc := 12) (As := [.int x1, .int (0 : Int32)]) (rest := []) (isC := [0, 1, 2, 3]) (ws' := (w_X8_holds G a_t a_t_s a_t_image a_t_mind a_t_aside a_t_text a_t_read a_t_comes a_t_begins a_t_latest a_t_move a_t_sort a_t_items a_t_cell a_t_carried t_isKept t_work t_kind t_letters t_at t_fault o3_t_back o3_t_waits t_miles o3_t_loads t_bestRound t_bestPlace t_bestAdds t_regret t_z t_s o3_t_comes o3_t_begins)) C S (c_X8_lateBy l G a_t a_t_s a_t_image a_t_mind a_t_aside a_t_text a_t_read a_t_comes a_t_begins a_t_latest a_t_move a_t_sort a_t_items a_t_cell a_t_carried t_isKept t_work t_kind t_letters t_at t_fault t_back t_waits t_miles t_loads t_bestRound t_bestPlace t_bestAdds t_regret t_z t_s t_comes t_begins x1 (0 : Int32) r3 o3_t_comes o3_t_begins o3_t_back o3_t_waits o3_t_loads hq3) (u_X8_holds_X8_lateBy_101 hts) (ci := 8) rfl 0 rfl rfl (by decide +kernel) [some 0, some 1, some 2, some 3] (by decide +kernel) rfl rfl rfl hl.1 rfl (Nat.le_of_ble_eq_true rfl) dX8_holds_12 (fun H locs S => ?_)
    refine lv_if_ge (tgt := 35) (pc := 15) hx hb dX8_holds_15 (by decide) (fun c4 => ?_) (fun c4 => ?_)
    · have hf := ifp c4 hf
      refine lv_iconst (pc := 35) hx hb dX8_holds_35 ic_0 ?_
      cases hf
      exact x_zret (pc := 36) (by decide) C S dX8_holds_36
    · have hf := ifn c4 hf
      refine lv_aload_n (pc := 18) hx hb dX8_holds_18 rfl (lv_at hl 0 rfl) ?_
      refine x_get (pc := 19) (ci := 8) (T := TX8) (v := .int o3_t_loads) C S 0 rfl rfl inlX8 18 (by decide) rfl qf_8_95 rfl dX8_holds_19 ?_
      refine lv_aload_n (pc := 22) hx hb dX8_holds_22 rfl (lv_at hl 0 rfl) ?_
      refine lv_iload_n (pc := 23) hx hb dX8_holds_23 rfl (lv_at hl 1 rfl) ?_
      refine lv_iconst (pc := 24) hx hb dX8_holds_24 ic_0 ?_
      obtain ⟨r5, hq5, hf⟩ := bd_e hf
      refine x_vI (pc := 25) (As := [.int x1, .int (0 : Int32)]) (rest := [.int o3_t_loads]) (isC := [0, 1]) (ws' := (w_X8_holds G a_t a_t_s a_t_image a_t_mind a_t_aside a_t_text a_t_read a_t_comes a_t_begins a_t_latest a_t_move a_t_sort a_t_items a_t_cell a_t_carried t_isKept t_work t_kind t_letters t_at t_fault o3_t_back o3_t_waits t_miles o3_t_loads t_bestRound t_bestPlace t_bestAdds t_regret t_z t_s o3_t_comes o3_t_begins)) C S (c_X8_roundAt l G a_t a_t_s a_t_image a_t_mind a_t_aside a_t_text a_t_read a_t_comes a_t_begins a_t_latest a_t_move a_t_sort a_t_items a_t_cell a_t_carried t_isKept t_work t_kind t_letters t_at t_fault o3_t_back o3_t_waits t_miles o3_t_loads t_bestRound t_bestPlace t_bestAdds t_regret t_z t_s x1 (0 : Int32) r5 hq5) (u_X8_holds_X8_roundAt_59 hts) (ci := 8) rfl 0 rfl rfl (by decide +kernel) [some 0, some 1, none, none] (by decide +kernel) rfl rfl rfl hl.1 rfl (Nat.le_of_ble_eq_true rfl) dX8_holds_25 (fun H locs S => ?_)
      refine lv_icmp_gt (tgt := 35) (pc := 28) hx hb dX8_holds_28 (by decide) (fun c6 => ?_) (fun c6 => ?_)
      · have hf := ifp c6 hf
        refine lv_iconst (pc := 35) hx hb dX8_holds_35 ic_0 ?_
        cases hf
        exact x_zret (pc := 36) (by decide) C S dX8_holds_36
      · have hf := ifn c6 hf
        refine lv_iconst (pc := 31) hx hb dX8_holds_31 ic_1 ?_
        refine lv_goto (tgt := 36) (pc := 32) hx hb dX8_holds_32 (by decide) ?_
        cases hf
        exact x_zret (pc := 36) (by decide) C S dX8_holds_36
end

abbrev rm_X8_removes : Room := { frames := 0, cells := 0, slots := 0, locals := 0 }
abbrev kw_X8_removes : Cond := .code yX8_removes cX8_removes 5 none
abbrev w_X8_removes (G : GE) (a_t a_t_s a_t_image a_t_mind a_t_aside a_t_text a_t_read a_t_comes a_t_begins a_t_latest a_t_move a_t_sort a_t_items a_t_cell a_t_carried : Nat) (t_isKept : Int32) (t_work : Int32) (t_kind : Int32) (t_letters : Int32) (t_at : Int32) (t_fault : Int32) (t_back : Int32) (t_waits : Int32) (t_miles : Int32) (t_loads : Int32) (t_bestRound : Int32) (t_bestPlace : Int32) (t_bestAdds : Int32) (t_regret : Int32) (t_z : Int32) (t_s : Nat → Int32) : va_W := [(a_t, ob 8 [.ref a_t_s, .ref a_t_image, .ref a_t_mind, .ref a_t_aside, .int t_isKept, .int t_work, .int t_kind, .ref a_t_text, .ref a_t_read, .int t_letters, .int t_at, .int t_fault, .ref a_t_comes, .ref a_t_begins, .ref a_t_latest, .int t_back, .int t_waits, .int t_miles, .int t_loads, .int t_bestRound, .int t_bestPlace, .int t_bestAdds, .int t_regret, .ref a_t_move, .ref a_t_sort, .ref a_t_items, .ref a_t_cell, .ref a_t_carried, .int t_z]), (a_t_s, aI G 258 t_s)]
section
variable {p : Program} {l : Launch} {e : Env} {s : State} {m : MethodId} {args : Array Value} {below : List Frame} {meth : Method} {c : Code} {A : Nat → Prop} {G : GE} {a_t a_t_s a_t_image a_t_mind a_t_aside a_t_text a_t_read a_t_comes a_t_begins a_t_latest a_t_move a_t_sort a_t_items a_t_cell a_t_carried : Nat} {z_t_s : Nat → Int32}
set_option maxRecDepth 100000 in
set_option maxHeartbeats 4000000 in
theorem k_X8_removes_24 (C : Cx p s m args meth c cX8_removes none 5 RX8 G A) (t_isKept : Int32) (t_work : Int32) (t_kind : Int32) (t_letters : Int32) (t_at : Int32) (t_fault : Int32) (t_back : Int32) (t_waits : Int32) (t_miles : Int32) (t_loads : Int32) (t_bestRound : Int32) (t_bestPlace : Int32) (t_bestAdds : Int32) (t_regret : Int32) (t_z : Int32) (t_s : Nat → Int32) (x3 : Int32) (x4 : Int32) (k24 : Int32 × (Nat → Int32) → Option ((Nat → Int32))) (hk24 : ∀ {H : Heap} {locs : List Loc} {ls : Array Slot} (x4' : Int32) (t_s' : Nat → Int32), k24 (x4', t_s') = some z_t_s → St G A s.heap H locs (w_X8_removes G a_t a_t_s a_t_image a_t_mind a_t_aside a_t_text a_t_read a_t_comes a_t_begins a_t_latest a_t_move a_t_sort a_t_items a_t_cell a_t_carried t_isKept t_work t_kind t_letters t_at t_fault t_back t_waits t_miles t_loads t_bestRound t_bestPlace t_bestAdds t_regret t_z t_s') → lv_has ls 5 [(0, .ref a_t), (3, .int x3), (4, .int x4')] → W p l e rm_X8_removes s m args below meth c H locs 0 0 (QV G below args s A (w_X8_removes G a_t a_t_s a_t_image a_t_mind a_t_aside a_t_text a_t_read a_t_comes a_t_begins a_t_latest a_t_move a_t_sort a_t_items a_t_cell a_t_carried t_isKept t_work t_kind t_letters t_at t_fault t_back t_waits t_miles t_loads t_bestRound t_bestPlace t_bestAdds t_regret t_z z_t_s)) (F0 m 24 ls [])) {H : Heap} {locs : List Loc} {ls : Array Slot} (hf : b_X8_removes_24 x3 k24 x4 t_s = some z_t_s) (S : St G A s.heap H locs (w_X8_removes G a_t a_t_s a_t_image a_t_mind a_t_aside a_t_text a_t_read a_t_comes a_t_begins a_t_latest a_t_move a_t_sort a_t_items a_t_cell a_t_carried t_isKept t_work t_kind t_letters t_at t_fault t_back t_waits t_miles t_loads t_bestRound t_bestPlace t_bestAdds t_regret t_z t_s)) (hl : lv_has ls 5 [(0, .ref a_t), (3, .int x3), (4, .int x4)]) : W p l e rm_X8_removes s m args below meth c H locs 0 0 (QV G below args s A (w_X8_removes G a_t a_t_s a_t_image a_t_mind a_t_aside a_t_text a_t_read a_t_comes a_t_begins a_t_latest a_t_move a_t_sort a_t_items a_t_cell a_t_carried t_isKept t_work t_kind t_letters t_at t_fault t_back t_waits t_miles t_loads t_bestRound t_bestPlace t_bestAdds t_regret t_z z_t_s)) (F0 m 24 ls []) := by
  unfold b_X8_removes_24 at hf
  have hx := C.1
  have hb := C.2.1
  have hown := C.2.2.2.2.1
  have hts := C.2.2.2.2.2.1
  have hN := C.2.2.2.2.2.2.2.2.2.2
  refine lv_iload (pc := 24) hx hb dX8_removes_24 (lv_at hl 2 rfl) ?_
  refine lv_aload_n (pc := 26) hx hb dX8_removes_26 rfl (lv_at hl 0 rfl) ?_
  refine x_get (pc := 27) (ci := 8) (T := TX8) (v := .ref a_t_s) C S 0 rfl rfl inlX8 0 (by decide) rfl qf_8_11 rfl dX8_removes_27 ?_
  refine lv_iload_n (pc := 30) hx hb dX8_removes_30 rfl (lv_at hl 1 rfl) ?_
  refine lv_iconst (pc := 31) hx hb dX8_removes_31 ic_3 ?_
  refine lv_iadd (pc := 32) hx hb dX8_removes_32 ?_
  obtain ⟨hv1, hf⟩ := gI_e hf
  refine x_iald (pc := 33) C S 1 rfl hv1 dX8_removes_33 ?_
  refine lv_icmp_ge (tgt := 67) (pc := 34) hx hb dX8_removes_34 (by decide) (fun c2 => ?_) (fun c2 => ?_)
  · have hf := ifp c2 hf
    cases hf
    exact x_vret (pc := 67) C S dX8_removes_67
  · have hf := ifn c2 hf
    refine lv_aload_n (pc := 37) hx hb dX8_removes_37 rfl (lv_at hl 0 rfl) ?_
    refine x_get (pc := 38) (ci := 8) (T := TX8) (v := .ref a_t_s) C S 0 rfl rfl inlX8 0 (by decide) rfl qf_8_11 rfl dX8_removes_38 ?_
    refine lv_iload_n (pc := 41) hx hb dX8_removes_41 rfl (lv_at hl 1 rfl) ?_
    refine lv_iconst (pc := 42) hx hb dX8_removes_42 ic_4 ?_
    refine lv_iadd (pc := 43) hx hb dX8_removes_43 ?_
    refine lv_iload (pc := 44) hx hb dX8_removes_44 (lv_at hl 2 rfl) ?_
    refine lv_iadd (pc := 46) hx hb dX8_removes_46 ?_
    refine lv_aload_n (pc := 47) hx hb dX8_removes_47 rfl (lv_at hl 0 rfl) ?_
    refine x_get (pc := 48) (ci := 8) (T := TX8) (v := .ref a_t_s) C S 0 rfl rfl inlX8 0 (by decide) rfl qf_8_11 rfl dX8_removes_48 ?_
    refine lv_iload_n (pc := 51) hx hb dX8_removes_51 rfl (lv_at hl 1 rfl) ?_
    refine lv_iconst (pc := 52) hx hb dX8_removes_52 ic_4 ?_
    refine lv_iadd (pc := 53) hx hb dX8_removes_53 ?_
    refine lv_iload (pc := 54) hx hb dX8_removes_54 (lv_at hl 2 rfl) ?_
    refine lv_iadd (pc := 56) hx hb dX8_removes_56 ?_
    refine lv_iconst (pc := 57) hx hb dX8_removes_57 ic_1 ?_
    refine lv_iadd (pc := 58) hx hb dX8_removes_58 ?_
    obtain ⟨hv3, hf⟩ := gI_e hf
    refine x_iald (pc := 59) C S 1 rfl hv3 dX8_removes_59 ?_
    obtain ⟨hv4, hf⟩ := gI_e hf
    refine x_iast (pc := 60) (ws' := (w_X8_removes G a_t a_t_s a_t_image a_t_mind a_t_aside a_t_text a_t_read a_t_comes a_t_begins a_t_latest a_t_move a_t_sort a_t_items a_t_cell a_t_carried t_isKept t_work t_kind t_letters t_at t_fault t_back t_waits t_miles t_loads t_bestRound t_bestPlace t_bestAdds t_regret t_z (upd t_s ((x3 + (4 : Int32)) + x4).toNatClampNeg (t_s (((x3 + (4 : Int32)) + x4) + (1 : Int32)).toNatClampNeg)))) C S 1 rfl hv4 rfl dX8_removes_60 (fun H locs S => ?_)
    refine lv_iinc (pc := 61) (v := (x4 + (1 : Int32))) (lv' := [(4, .int (x4 + (1 : Int32))), (0, .ref a_t), (3, .int x3)]) hx hb dX8_removes_61 hl (k := 2) rfl (congrArg (fun z => x4 + z) ic_1) (by decide) rfl (fun ls hl => ?_)
    refine lv_goto (tgt := 24) (pc := 64) hx hb dX8_removes_64 (by decide) ?_
    exact hk24 ((x4 + (1 : Int32))) ((upd t_s ((x3 + (4 : Int32)) + x4).toNatClampNeg (t_s (((x3 + (4 : Int32)) + x4) + (1 : Int32)).toNatClampNeg)))  hf S (lv_sub hl [1, 2, 0] rfl)
set_option maxRecDepth 100000 in
set_option maxHeartbeats 4000000 in
theorem h_X8_removes_24 (C : Cx p s m args meth c cX8_removes none 5 RX8 G A) (t_isKept : Int32) (t_work : Int32) (t_kind : Int32) (t_letters : Int32) (t_at : Int32) (t_fault : Int32) (t_back : Int32) (t_waits : Int32) (t_miles : Int32) (t_loads : Int32) (t_bestRound : Int32) (t_bestPlace : Int32) (t_bestAdds : Int32) (t_regret : Int32) (t_z : Int32) (x3 : Int32) : ∀ (n : Nat) (x4 : Int32) (t_s : Nat → Int32) {H : Heap} {locs : List Loc} {ls : Array Slot} (hf : lp (fun k x => b_X8_removes_24 x3 k x.1 x.2) n (x4, t_s) = some z_t_s) (S : St G A s.heap H locs (w_X8_removes G a_t a_t_s a_t_image a_t_mind a_t_aside a_t_text a_t_read a_t_comes a_t_begins a_t_latest a_t_move a_t_sort a_t_items a_t_cell a_t_carried t_isKept t_work t_kind t_letters t_at t_fault t_back t_waits t_miles t_loads t_bestRound t_bestPlace t_bestAdds t_regret t_z t_s)) (hl : lv_has ls 5 [(0, .ref a_t), (3, .int x3), (4, .int x4)]), W p l e rm_X8_removes s m args below meth c H locs 0 0 (QV G below args s A (w_X8_removes G a_t a_t_s a_t_image a_t_mind a_t_aside a_t_text a_t_read a_t_comes a_t_begins a_t_latest a_t_move a_t_sort a_t_items a_t_cell a_t_carried t_isKept t_work t_kind t_letters t_at t_fault t_back t_waits t_miles t_loads t_bestRound t_bestPlace t_bestAdds t_regret t_z z_t_s)) (F0 m 24 ls []) := by
  intro n
  induction n with
  | zero =>
    intro x4 t_s  H locs ls hf
    cases hf
  | succ n ih =>
    intro x4 t_s  H locs ls hf S hl
    have hf : b_X8_removes_24 x3 (lp (fun k x => b_X8_removes_24 x3 k x.1 x.2) n) x4 t_s = some z_t_s := hf
    exact k_X8_removes_24 C t_isKept t_work t_kind t_letters t_at t_fault t_back t_waits t_miles t_loads t_bestRound t_bestPlace t_bestAdds t_regret t_z t_s x3 x4  (lp (fun k x => b_X8_removes_24 x3 k x.1 x.2) n) (fun x4' t_s'  h S hl => ih x4' t_s'  h S hl) hf S hl
set_option maxRecDepth 100000 in
set_option maxHeartbeats 4000000 in
theorem c_X8_removes (l : Launch) (G : GE) (a_t a_t_s a_t_image a_t_mind a_t_aside a_t_text a_t_read a_t_comes a_t_begins a_t_latest a_t_move a_t_sort a_t_items a_t_cell a_t_carried : Nat) (t_isKept : Int32) (t_work : Int32) (t_kind : Int32) (t_letters : Int32) (t_at : Int32) (t_fault : Int32) (t_back : Int32) (t_waits : Int32) (t_miles : Int32) (t_loads : Int32) (t_bestRound : Int32) (t_bestPlace : Int32) (t_bestAdds : Int32) (t_regret : Int32) (t_z : Int32) (t_s : Nat → Int32) (x1 : Int32) (x2 : Int32) (z_t_s : Nat → Int32) (hf : f_X8_removes t_s x1 x2 = some z_t_s) : CV l G yX8_removes kw_X8_removes rm_X8_removes [.ref a_t, .int x1, .int x2] (w_X8_removes G a_t a_t_s a_t_image a_t_mind a_t_aside a_t_text a_t_read a_t_comes a_t_begins a_t_latest a_t_move a_t_sort a_t_items a_t_cell a_t_carried t_isKept t_work t_kind t_letters t_at t_fault t_back t_waits t_miles t_loads t_bestRound t_bestPlace t_bestAdds t_regret t_z t_s) (w_X8_removes G a_t a_t_s a_t_image a_t_mind a_t_aside a_t_text a_t_read a_t_comes a_t_begins a_t_latest a_t_move a_t_sort a_t_items a_t_cell a_t_carried t_isKept t_work t_kind t_letters t_at t_fault t_back t_waits t_miles t_loads t_bestRound t_bestPlace t_bestAdds t_regret t_z z_t_s) := by
  refine en_V (cc := cX8_removes) (maxL := 5) (ret := none) (by decide +kernel) (Nat.le_of_ble_eq_true rfl) ?_
  intro p e s m args below meth c A ls C S hl
  have hl : lv_has ls 5 [(0, .ref a_t), (1, .int x1), (2, .int x2)] := hl
  have C : Cx p s m args meth c cX8_removes none 5 RX8 G A := C
  unfold f_X8_removes at hf
  have hx := C.1
  have hb := C.2.1
  have hown := C.2.2.2.2.1
  have hts := C.2.2.2.2.2.1
  have hN := C.2.2.2.2.2.2.2.2.2.2
  refine lv_sipush (pc := 0) hx hb dX8_removes_0 sc_178 ?_
  refine lv_bipush (pc := 3) hx hb dX8_removes_3 bc_20 ?_
  refine lv_iload_n (pc := 5) hx hb dX8_removes_5 rfl (lv_at hl 1 rfl) ?_
  refine lv_imul (pc := 6) hx hb dX8_removes_6 ?_
  refine lv_iadd (pc := 7) hx hb dX8_removes_7 ?_
  refine lv_istore_n (pc := 8) (lv' := [(3, .int ((178 : Int32) + ((20 : Int32) * x1))), (0, .ref a_t), (1, .int x1), (2, .int x2)]) hx hb dX8_removes_8 rfl hl (by decide) rfl (fun ls hl => ?_)
  refine lv_aload_n (pc := 9) hx hb dX8_removes_9 rfl (lv_at hl 1 rfl) ?_
  refine x_get (pc := 10) (ci := 8) (T := TX8) (v := .ref a_t_s) C S 0 rfl rfl inlX8 0 (by decide) rfl qf_8_11 rfl dX8_removes_10 ?_
  refine lv_iload_n (pc := 13) hx hb dX8_removes_13 rfl (lv_at hl 0 rfl) ?_
  refine lv_iconst (pc := 14) hx hb dX8_removes_14 ic_3 ?_
  refine lv_iadd (pc := 15) hx hb dX8_removes_15 ?_
  refine lv_dup2_11 (pc := 16) hx hb dX8_removes_16 rfl rfl ?_
  obtain ⟨hv1, hf⟩ := gI_e hf
  refine x_iald (pc := 17) C S 1 rfl hv1 dX8_removes_17 ?_
  refine lv_iconst (pc := 18) hx hb dX8_removes_18 ic_1 ?_
  refine lv_isub (pc := 19) hx hb dX8_removes_19 ?_
  refine x_iast (pc := 20) (ws' := (w_X8_removes G a_t a_t_s a_t_image a_t_mind a_t_aside a_t_text a_t_read a_t_comes a_t_begins a_t_latest a_t_move a_t_sort a_t_items a_t_cell a_t_carried t_isKept t_work t_kind t_letters t_at t_fault t_back t_waits t_miles t_loads t_bestRound t_bestPlace t_bestAdds t_regret t_z (upd t_s (((178 : Int32) + ((20 : Int32) * x1)) + (3 : Int32)).toNatClampNeg ((t_s (((178 : Int32) + ((20 : Int32) * x1)) + (3 : Int32)).toNatClampNeg) - (1 : Int32))))) C S 1 rfl hv1 rfl dX8_removes_20 (fun H locs S => ?_)
  refine lv_iload_n (pc := 21) hx hb dX8_removes_21 rfl (lv_at hl 3 rfl) ?_
  refine lv_istore (pc := 22) (lv' := [(4, .int x2), (3, .int ((178 : Int32) + ((20 : Int32) * x1))), (0, .ref a_t), (1, .int x1), (2, .int x2)]) hx hb dX8_removes_22 hl (by decide) rfl (fun ls hl => ?_)
  exact h_X8_removes_24 C (t_isKept) (t_work) (t_kind) (t_letters) (t_at) (t_fault) (t_back) (t_waits) (t_miles) (t_loads) (t_bestRound) (t_bestPlace) (t_bestAdds) (t_regret) (t_z) (((178 : Int32) + ((20 : Int32) * x1))) fu (x2) ((upd t_s (((178 : Int32) + ((20 : Int32) * x1)) + (3 : Int32)).toNatClampNeg ((t_s (((178 : Int32) + ((20 : Int32) * x1)) + (3 : Int32)).toNatClampNeg) - (1 : Int32)))) hf S (lv_sub hl [2, 1, 0] rfl)
end

abbrev rm_X8_added : Room := { frames := 5, cells := 0, slots := 0, locals := 120 }
abbrev kw_X8_added : Cond := .code yX8_added cX8_added 6 (some .int)
abbrev w_X8_added (G : GE) (a_t a_t_s a_t_image a_t_mind a_t_aside a_t_text a_t_read a_t_comes a_t_begins a_t_latest a_t_move a_t_sort a_t_items a_t_cell a_t_carried : Nat) (t_isKept : Int32) (t_work : Int32) (t_kind : Int32) (t_letters : Int32) (t_at : Int32) (t_fault : Int32) (t_back : Int32) (t_waits : Int32) (t_miles : Int32) (t_loads : Int32) (t_bestRound : Int32) (t_bestPlace : Int32) (t_bestAdds : Int32) (t_regret : Int32) (t_z : Int32) (t_s : Nat → Int32) (t_comes : Nat → Int32) (t_begins : Nat → Int32) : va_W := [(a_t, ob 8 [.ref a_t_s, .ref a_t_image, .ref a_t_mind, .ref a_t_aside, .int t_isKept, .int t_work, .int t_kind, .ref a_t_text, .ref a_t_read, .int t_letters, .int t_at, .int t_fault, .ref a_t_comes, .ref a_t_begins, .ref a_t_latest, .int t_back, .int t_waits, .int t_miles, .int t_loads, .int t_bestRound, .int t_bestPlace, .int t_bestAdds, .int t_regret, .ref a_t_move, .ref a_t_sort, .ref a_t_items, .ref a_t_cell, .ref a_t_carried, .int t_z]), (a_t_s, aI G 258 t_s), (a_t_comes, aI G 16 t_comes), (a_t_begins, aI G 16 t_begins)]
theorem u_X8_added_X8_milesOf_111 {s : State} {args : Array Value} (hts : ∀ w ∈ WU, w.before args s = true) : CallW rm_X8_added s args RX8 RX8 111 yX8_milesOf cX8_milesOf 5 (some .int) (kw_X8_milesOf :: WU) rm_X8_milesOf 0 0 1 := cwV 1 hts (gV qm_8_111 qi_X8_milesOf ql_X8_milesOf qn_8 qc_X8_milesOf) rfl rfl rfl (by decide +kernel) ⟨Nat.le_of_ble_eq_true rfl, Nat.le_of_ble_eq_true rfl⟩
theorem u_X8_added_X8_inserts_165 {s : State} {args : Array Value} (hts : ∀ w ∈ WU, w.before args s = true) : CallW rm_X8_added s args RX8 RX8 165 yX8_inserts cX8_inserts 6 none (kw_X8_inserts :: WU) rm_X8_inserts 0 0 3 := cwV 3 hts (gV qm_8_165 qi_X8_inserts ql_X8_inserts qn_8 qc_X8_inserts) rfl rfl rfl (by decide +kernel) ⟨Nat.le_of_ble_eq_true rfl, Nat.le_of_ble_eq_true rfl⟩
theorem u_X8_added_X8_holds_104 {s : State} {args : Array Value} (hts : ∀ w ∈ WU, w.before args s = true) : CallW rm_X8_added s args RX8 RX8 104 yX8_holds cX8_holds 2 (some .boolean) (kw_X8_holds :: WU) rm_X8_holds 0 0 1 := cwV 1 hts (gV qm_8_104 qi_X8_holds ql_X8_holds qn_8 qc_X8_holds) rfl rfl rfl (by decide +kernel) ⟨Nat.le_of_ble_eq_true rfl, Nat.le_of_ble_eq_true rfl⟩
theorem u_X8_added_X8_roundAt_59 {s : State} {args : Array Value} (hts : ∀ w ∈ WU, w.before args s = true) : CallW rm_X8_added s args RX8 RX8 59 yX8_roundAt cX8_roundAt 3 (some .int) (kw_X8_roundAt :: WU) rm_X8_roundAt 0 0 2 := cwV 2 hts (gV qm_8_59 qi_X8_roundAt ql_X8_roundAt qn_8 qc_X8_roundAt) rfl rfl rfl (by decide +kernel) ⟨Nat.le_of_ble_eq_true rfl, Nat.le_of_ble_eq_true rfl⟩
theorem u_X8_added_X8_removes_170 {s : State} {args : Array Value} (hts : ∀ w ∈ WU, w.before args s = true) : CallW rm_X8_added s args RX8 RX8 170 yX8_removes cX8_removes 5 none (kw_X8_removes :: WU) rm_X8_removes 0 0 2 := cwV 2 hts (gV qm_8_170 qi_X8_removes ql_X8_removes qn_8 qc_X8_removes) rfl rfl rfl (by decide +kernel) ⟨Nat.le_of_ble_eq_true rfl, Nat.le_of_ble_eq_true rfl⟩
section
variable {p : Program} {l : Launch} {e : Env} {s : State} {m : MethodId} {args : Array Value} {below : List Frame} {meth : Method} {c : Code} {A : Nat → Prop} {G : GE} {a_t a_t_s a_t_image a_t_mind a_t_aside a_t_text a_t_read a_t_comes a_t_begins a_t_latest a_t_move a_t_sort a_t_items a_t_cell a_t_carried : Nat} {r : Int32} {z_t_s : Nat → Int32} {z_t_comes : Nat → Int32} {z_t_begins : Nat → Int32} {z_t_back : Int32} {z_t_waits : Int32} {z_t_loads : Int32}
set_option maxRecDepth 100000 in
set_option maxHeartbeats 4000000 in
theorem k_X8_added_56 (C : Cx p s m args meth c cX8_added (some .int) 6 RX8 G A) (t_isKept : Int32) (t_work : Int32) (t_kind : Int32) (t_letters : Int32) (t_at : Int32) (t_fault : Int32) (t_back : Int32) (t_waits : Int32) (t_miles : Int32) (t_loads : Int32) (t_bestRound : Int32) (t_bestPlace : Int32) (t_bestAdds : Int32) (t_regret : Int32) (t_z : Int32) (t_s : Nat → Int32) (t_comes : Nat → Int32) (t_begins : Nat → Int32) (x2 : Int32) (x3 : Int32) (y0 : Int32) {H : Heap} {locs : List Loc} {ls : Array Slot} (hf : b_X8_added_56 x2 x3 y0 t_s t_comes t_begins t_back t_waits t_loads = some (r, z_t_s, z_t_comes, z_t_begins, z_t_back, z_t_waits, z_t_loads)) (S : St G A s.heap H locs (w_X8_added G a_t a_t_s a_t_image a_t_mind a_t_aside a_t_text a_t_read a_t_comes a_t_begins a_t_latest a_t_move a_t_sort a_t_items a_t_cell a_t_carried t_isKept t_work t_kind t_letters t_at t_fault t_back t_waits t_miles t_loads t_bestRound t_bestPlace t_bestAdds t_regret t_z t_s t_comes t_begins)) (hl : lv_has ls 6 [(0, .ref a_t), (2, .int x2), (3, .int x3)]) : W p l e rm_X8_added s m args below meth c H locs 0 0 (QI G below args s A r (w_X8_added G a_t a_t_s a_t_image a_t_mind a_t_aside a_t_text a_t_read a_t_comes a_t_begins a_t_latest a_t_move a_t_sort a_t_items a_t_cell a_t_carried t_isKept t_work t_kind t_letters t_at t_fault z_t_back z_t_waits t_miles z_t_loads t_bestRound t_bestPlace t_bestAdds t_regret t_z z_t_s z_t_comes z_t_begins)) (F0 m 56 ls [.int y0]) := by
  unfold b_X8_added_56 at hf
  have hx := C.1
  have hb := C.2.1
  have hown := C.2.2.2.2.1
  have hts := C.2.2.2.2.2.1
  have hN := C.2.2.2.2.2.2.2.2.2.2
  refine lv_istore (pc := 56) (lv' := [(5, .int y0), (0, .ref a_t), (2, .int x2), (3, .int x3)]) hx hb dX8_added_56 hl (by decide) rfl (fun ls hl => ?_)
  refine lv_aload_n (pc := 58) hx hb dX8_added_58 rfl (lv_at hl 1 rfl) ?_
  refine lv_iload_n (pc := 59) hx hb dX8_added_59 rfl (lv_at hl 2 rfl) ?_
  refine lv_iload_n (pc := 60) hx hb dX8_added_60 rfl (lv_at hl 3 rfl) ?_
  obtain ⟨o1_t_s, hq1, hf⟩ := bd_e hf
  refine x_vV (pc := 61) (As := [.int x2, .int x3]) (rest := []) (isC := [0, 1]) (ws' := (w_X8_added G a_t a_t_s a_t_image a_t_mind a_t_aside a_t_text a_t_read a_t_comes a_t_begins a_t_latest a_t_move a_t_sort a_t_items a_t_cell a_t_carried t_isKept t_work t_kind t_letters t_at t_fault t_back t_waits t_miles t_loads t_bestRound t_bestPlace t_bestAdds t_regret t_z o1_t_s t_comes t_begins)) C S (c_X8_removes l G a_t a_t_s a_t_image a_t_mind a_t_aside a_t_text a_t_read a_t_comes a_t_begins a_t_latest a_t_move a_t_sort a_t_items a_t_cell a_t_carried t_isKept t_work t_kind t_letters t_at t_fault t_back t_waits t_miles t_loads t_bestRound t_bestPlace t_bestAdds t_regret t_z t_s x2 x3 o1_t_s hq1) (u_X8_added_X8_removes_170 hts) (ci := 8) rfl 0 rfl rfl (by decide +kernel) [some 0, some 1, none, none] (by decide +kernel) rfl rfl rfl hl.1 rfl (Nat.le_of_ble_eq_true rfl) dX8_added_61 (fun H locs S => ?_)
  refine lv_iload (pc := 64) hx hb dX8_added_64 (lv_at hl 0 rfl) ?_
  cases hf
  exact x_iret (pc := 66) C S dX8_added_66
set_option maxRecDepth 100000 in
set_option maxHeartbeats 4000000 in
theorem k_X8_added_50 (C : Cx p s m args meth c cX8_added (some .int) 6 RX8 G A) (t_isKept : Int32) (t_work : Int32) (t_kind : Int32) (t_letters : Int32) (t_at : Int32) (t_fault : Int32) (t_back : Int32) (t_waits : Int32) (t_miles : Int32) (t_loads : Int32) (t_bestRound : Int32) (t_bestPlace : Int32) (t_bestAdds : Int32) (t_regret : Int32) (t_z : Int32) (t_s : Nat → Int32) (t_comes : Nat → Int32) (t_begins : Nat → Int32) (x2 : Int32) (x3 : Int32) (y0 : Int32) (y1 : Int32) {H : Heap} {locs : List Loc} {ls : Array Slot} (hf : b_X8_added_50 x2 x3 y0 y1 t_s t_comes t_begins t_back t_waits t_loads = some (r, z_t_s, z_t_comes, z_t_begins, z_t_back, z_t_waits, z_t_loads)) (S : St G A s.heap H locs (w_X8_added G a_t a_t_s a_t_image a_t_mind a_t_aside a_t_text a_t_read a_t_comes a_t_begins a_t_latest a_t_move a_t_sort a_t_items a_t_cell a_t_carried t_isKept t_work t_kind t_letters t_at t_fault t_back t_waits t_miles t_loads t_bestRound t_bestPlace t_bestAdds t_regret t_z t_s t_comes t_begins)) (hl : lv_has ls 6 [(0, .ref a_t), (2, .int x2), (3, .int x3)]) : W p l e rm_X8_added s m args below meth c H locs 0 0 (QI G below args s A r (w_X8_added G a_t a_t_s a_t_image a_t_mind a_t_aside a_t_text a_t_read a_t_comes a_t_begins a_t_latest a_t_move a_t_sort a_t_items a_t_cell a_t_carried t_isKept t_work t_kind t_letters t_at t_fault z_t_back z_t_waits t_miles z_t_loads t_bestRound t_bestPlace t_bestAdds t_regret t_z z_t_s z_t_comes z_t_begins)) (F0 m 50 ls [.int y1, .int y0]) := by
  unfold b_X8_added_50 at hf
  have hx := C.1
  have hb := C.2.1
  have hown := C.2.2.2.2.1
  have hts := C.2.2.2.2.2.1
  have hN := C.2.2.2.2.2.2.2.2.2.2
  refine lv_iadd (pc := 50) hx hb dX8_added_50 ?_
  refine lv_goto (tgt := 56) (pc := 51) hx hb dX8_added_51 (by decide) ?_
  exact k_X8_added_56 C (t_isKept) (t_work) (t_kind) (t_letters) (t_at) (t_fault) (t_back) (t_waits) (t_miles) (t_loads) (t_bestRound) (t_bestPlace) (t_bestAdds) (t_regret) (t_z) (t_s) (t_comes) (t_begins) (x2) (x3) ((y0 + y1)) hf S (lv_sub hl [0, 1, 2] rfl)
set_option maxRecDepth 100000 in
set_option maxHeartbeats 4000000 in
theorem c_X8_added (l : Launch) (G : GE) (a_t a_t_s a_t_image a_t_mind a_t_aside a_t_text a_t_read a_t_comes a_t_begins a_t_latest a_t_move a_t_sort a_t_items a_t_cell a_t_carried : Nat) (t_isKept : Int32) (t_work : Int32) (t_kind : Int32) (t_letters : Int32) (t_at : Int32) (t_fault : Int32) (t_back : Int32) (t_waits : Int32) (t_miles : Int32) (t_loads : Int32) (t_bestRound : Int32) (t_bestPlace : Int32) (t_bestAdds : Int32) (t_regret : Int32) (t_z : Int32) (t_s : Nat → Int32) (t_comes : Nat → Int32) (t_begins : Nat → Int32) (x1 : Int32) (x2 : Int32) (x3 : Int32) (r : Int32) (z_t_s : Nat → Int32) (z_t_comes : Nat → Int32) (z_t_begins : Nat → Int32) (z_t_back : Int32) (z_t_waits : Int32) (z_t_loads : Int32) (hf : f_X8_added t_s t_comes t_begins t_back t_waits t_loads x1 x2 x3 = some (r, z_t_s, z_t_comes, z_t_begins, z_t_back, z_t_waits, z_t_loads)) : CI l G yX8_added kw_X8_added rm_X8_added [.ref a_t, .int x1, .int x2, .int x3] (w_X8_added G a_t a_t_s a_t_image a_t_mind a_t_aside a_t_text a_t_read a_t_comes a_t_begins a_t_latest a_t_move a_t_sort a_t_items a_t_cell a_t_carried t_isKept t_work t_kind t_letters t_at t_fault t_back t_waits t_miles t_loads t_bestRound t_bestPlace t_bestAdds t_regret t_z t_s t_comes t_begins) r (w_X8_added G a_t a_t_s a_t_image a_t_mind a_t_aside a_t_text a_t_read a_t_comes a_t_begins a_t_latest a_t_move a_t_sort a_t_items a_t_cell a_t_carried t_isKept t_work t_kind t_letters t_at t_fault z_t_back z_t_waits t_miles z_t_loads t_bestRound t_bestPlace t_bestAdds t_regret t_z z_t_s z_t_comes z_t_begins) := by
  refine en_I (cc := cX8_added) (maxL := 6) (ret := (some .int)) (by decide +kernel) (Nat.le_of_ble_eq_true rfl) ?_
  intro p e s m args below meth c A ls C S hl
  have hl : lv_has ls 6 [(0, .ref a_t), (1, .int x1), (2, .int x2), (3, .int x3)] := hl
  have C : Cx p s m args meth c cX8_added (some .int) 6 RX8 G A := C
  unfold f_X8_added at hf
  have hx := C.1
  have hb := C.2.1
  have hown := C.2.2.2.2.1
  have hts := C.2.2.2.2.2.1
  have hN := C.2.2.2.2.2.2.2.2.2.2
  refine lv_aload_n (pc := 0) hx hb dX8_added_0 rfl (lv_at hl 0 rfl) ?_
  refine lv_iload_n (pc := 1) hx hb dX8_added_1 rfl (lv_at hl 2 rfl) ?_
  obtain ⟨r1, hq1, hf⟩ := bd_e hf
  refine x_vI (pc := 2) (As := [.int x2]) (rest := []) (isC := [0, 1]) (ws' := (w_X8_added G a_t a_t_s a_t_image a_t_mind a_t_aside a_t_text a_t_read a_t_comes a_t_begins a_t_latest a_t_move a_t_sort a_t_items a_t_cell a_t_carried t_isKept t_work t_kind t_letters t_at t_fault t_back t_waits t_miles t_loads t_bestRound t_bestPlace t_bestAdds t_regret t_z t_s t_comes t_begins)) C S (c_X8_milesOf l G a_t a_t_s a_t_image a_t_mind a_t_aside a_t_text a_t_read a_t_comes a_t_begins a_t_latest a_t_move a_t_sort a_t_items a_t_cell a_t_carried t_isKept t_work t_kind t_letters t_at t_fault t_back t_waits t_miles t_loads t_bestRound t_bestPlace t_bestAdds t_regret t_z t_s x2 r1 hq1) (u_X8_added_X8_milesOf_111 hts) (ci := 8) rfl 0 rfl rfl (by decide +kernel) [some 0, some 1, none, none] (by decide +kernel) rfl rfl rfl hl.1 rfl (Nat.le_of_ble_eq_true rfl) dX8_added_2 (fun H locs S => ?_)
  refine lv_istore (pc := 5) (lv' := [(4, .int r1), (0, .ref a_t), (1, .int x1), (2, .int x2), (3, .int x3)]) hx hb dX8_added_5 hl (by decide) rfl (fun ls hl => ?_)
  refine lv_aload_n (pc := 7) hx hb dX8_added_7 rfl (lv_at hl 1 rfl) ?_
  refine lv_iload_n (pc := 8) hx hb dX8_added_8 rfl (lv_at hl 3 rfl) ?_
  refine lv_iload_n (pc := 9) hx hb dX8_added_9 rfl (lv_at hl 4 rfl) ?_
  refine lv_iload_n (pc := 10) hx hb dX8_added_10 rfl (lv_at hl 2 rfl) ?_
  obtain ⟨o2_t_s, hq2, hf⟩ := bd_e hf
  refine x_vV (pc := 11) (As := [.int x2, .int x3, .int x1]) (rest := []) (isC := [0, 1]) (ws' := (w_X8_added G a_t a_t_s a_t_image a_t_mind a_t_aside a_t_text a_t_read a_t_comes a_t_begins a_t_latest a_t_move a_t_sort a_t_items a_t_cell a_t_carried t_isKept t_work t_kind t_letters t_at t_fault t_back t_waits t_miles t_loads t_bestRound t_bestPlace t_bestAdds t_regret t_z o2_t_s t_comes t_begins)) C S (c_X8_inserts l G a_t a_t_s a_t_image a_t_mind a_t_aside a_t_text a_t_read a_t_comes a_t_begins a_t_latest a_t_move a_t_sort a_t_items a_t_cell a_t_carried t_isKept t_work t_kind t_letters t_at t_fault t_back t_waits t_miles t_loads t_bestRound t_bestPlace t_bestAdds t_regret t_z t_s x2 x3 x1 o2_t_s hq2) (u_X8_added_X8_inserts_165 hts) (ci := 8) rfl 0 rfl rfl (by decide +kernel) [some 0, some 1, none, none] (by decide +kernel) rfl rfl rfl hl.1 rfl (Nat.le_of_ble_eq_true rfl) dX8_added_11 (fun H locs S => ?_)
  refine lv_aload_n (pc := 14) hx hb dX8_added_14 rfl (lv_at hl 1 rfl) ?_
  refine lv_iload_n (pc := 15) hx hb dX8_added_15 rfl (lv_at hl 3 rfl) ?_
  obtain ⟨⟨r3, o3_t_comes, o3_t_begins, o3_t_back, o3_t_waits, o3_t_loads⟩, hq3, hf⟩ := bd_e hf
  refine x_vI (pc := 16) (As := [.int x2]) (rest := []) (isC := [0, 1, 2, 3]) (ws' := (w_X8_added G a_t a_t_s a_t_image a_t_mind a_t_aside a_t_text a_t_read a_t_comes a_t_begins a_t_latest a_t_move a_t_sort a_t_items a_t_cell a_t_carried t_isKept t_work t_kind t_letters t_at t_fault o3_t_back o3_t_waits t_miles o3_t_loads t_bestRound t_bestPlace t_bestAdds t_regret t_z o2_t_s o3_t_comes o3_t_begins)) C S (c_X8_holds l G a_t a_t_s a_t_image a_t_mind a_t_aside a_t_text a_t_read a_t_comes a_t_begins a_t_latest a_t_move a_t_sort a_t_items a_t_cell a_t_carried t_isKept t_work t_kind t_letters t_at t_fault t_back t_waits t_miles t_loads t_bestRound t_bestPlace t_bestAdds t_regret t_z o2_t_s t_comes t_begins x2 r3 o3_t_comes o3_t_begins o3_t_back o3_t_waits o3_t_loads hq3) (u_X8_added_X8_holds_104 hts) (ci := 8) rfl 0 rfl rfl (by decide +kernel) [some 0, some 1, some 2, some 3] (by decide +kernel) rfl rfl rfl hl.1 rfl (Nat.le_of_ble_eq_true rfl) dX8_added_16 (fun H locs S => ?_)
  refine lv_if_eq (tgt := 54) (pc := 19) hx hb dX8_added_19 (by decide) (fun c4 => ?_) (fun c4 => ?_)
  · have hf := ifp c4 hf
    refine lv_ldc (pc := 54) hx hb hown (hts _ qk_8_169) dX8_added_54 ?_
    exact k_X8_added_56 C (t_isKept) (t_work) (t_kind) (t_letters) (t_at) (t_fault) (o3_t_back) (o3_t_waits) (t_miles) (o3_t_loads) (t_bestRound) (t_bestPlace) (t_bestAdds) (t_regret) (t_z) (o2_t_s) (o3_t_comes) (o3_t_begins) (x2) (x3) ((-100000 : Int32)) hf S (lv_sub hl [1, 3, 4] rfl)
  · have hf := ifn c4 hf
    refine lv_aload_n (pc := 22) hx hb dX8_added_22 rfl (lv_at hl 1 rfl) ?_
    refine lv_iload_n (pc := 23) hx hb dX8_added_23 rfl (lv_at hl 3 rfl) ?_
    obtain ⟨r5, hq5, hf⟩ := bd_e hf
    refine x_vI (pc := 24) (As := [.int x2]) (rest := []) (isC := [0, 1]) (ws' := (w_X8_added G a_t a_t_s a_t_image a_t_mind a_t_aside a_t_text a_t_read a_t_comes a_t_begins a_t_latest a_t_move a_t_sort a_t_items a_t_cell a_t_carried t_isKept t_work t_kind t_letters t_at t_fault o3_t_back o3_t_waits t_miles o3_t_loads t_bestRound t_bestPlace t_bestAdds t_regret t_z o2_t_s o3_t_comes o3_t_begins)) C S (c_X8_milesOf l G a_t a_t_s a_t_image a_t_mind a_t_aside a_t_text a_t_read a_t_comes a_t_begins a_t_latest a_t_move a_t_sort a_t_items a_t_cell a_t_carried t_isKept t_work t_kind t_letters t_at t_fault o3_t_back o3_t_waits t_miles o3_t_loads t_bestRound t_bestPlace t_bestAdds t_regret t_z o2_t_s x2 r5 hq5) (u_X8_added_X8_milesOf_111 hts) (ci := 8) rfl 0 rfl rfl (by decide +kernel) [some 0, some 1, none, none] (by decide +kernel) rfl rfl rfl hl.1 rfl (Nat.le_of_ble_eq_true rfl) dX8_added_24 (fun H locs S => ?_)
    refine lv_iload (pc := 27) hx hb dX8_added_27 (lv_at hl 0 rfl) ?_
    refine lv_isub (pc := 29) hx hb dX8_added_29 ?_
    refine lv_aload_n (pc := 30) hx hb dX8_added_30 rfl (lv_at hl 1 rfl) ?_
    refine lv_iload_n (pc := 31) hx hb dX8_added_31 rfl (lv_at hl 3 rfl) ?_
    refine lv_iconst (pc := 32) hx hb dX8_added_32 ic_3 ?_
    obtain ⟨r6, hq6, hf⟩ := bd_e hf
    refine x_vI (pc := 33) (As := [.int x2, .int (3 : Int32)]) (rest := [.int (r5 - r1)]) (isC := [0, 1]) (ws' := (w_X8_added G a_t a_t_s a_t_image a_t_mind a_t_aside a_t_text a_t_read a_t_comes a_t_begins a_t_latest a_t_move a_t_sort a_t_items a_t_cell a_t_carried t_isKept t_work t_kind t_letters t_at t_fault o3_t_back o3_t_waits t_miles o3_t_loads t_bestRound t_bestPlace t_bestAdds t_regret t_z o2_t_s o3_t_comes o3_t_begins)) C S (c_X8_roundAt l G a_t a_t_s a_t_image a_t_mind a_t_aside a_t_text a_t_read a_t_comes a_t_begins a_t_latest a_t_move a_t_sort a_t_items a_t_cell a_t_carried t_isKept t_work t_kind t_letters t_at t_fault o3_t_back o3_t_waits t_miles o3_t_loads t_bestRound t_bestPlace t_bestAdds t_regret t_z o2_t_s x2 (3 : Int32) r6 hq6) (u_X8_added_X8_roundAt_59 hts) (ci := 8) rfl 0 rfl rfl (by decide +kernel) [some 0, some 1, none, none] (by decide +kernel) rfl rfl rfl hl.1 rfl (Nat.le_of_ble_eq_true rfl) dX8_added_33 (fun H locs S => ?_)
    refine lv_iconst (pc := 36) hx hb dX8_added_36 ic_1 ?_
    refine lv_icmp_ne (tgt := 49) (pc := 37) hx hb dX8_added_37 (by decide) (fun c7 => ?_) (fun c7 => ?_)
    · have hf := ifn c7 hf
      refine lv_iconst (pc := 49) hx hb dX8_added_49 ic_0 ?_
      exact k_X8_added_50 C (t_isKept) (t_work) (t_kind) (t_letters) (t_at) (t_fault) (o3_t_back) (o3_t_waits) (t_miles) (o3_t_loads) (t_bestRound) (t_bestPlace) (t_bestAdds) (t_regret) (t_z) (o2_t_s) (o3_t_comes) (o3_t_begins) (x2) (x3) ((r5 - r1)) ((0 : Int32)) hf S (lv_sub hl [1, 3, 4] rfl)
    · have hf := ifp c7 hf
      refine lv_aload_n (pc := 40) hx hb dX8_added_40 rfl (lv_at hl 1 rfl) ?_
      refine x_get (pc := 41) (ci := 8) (T := TX8) (v := .ref a_t_s) C S 0 rfl rfl inlX8 0 (by decide) rfl qf_8_11 rfl dX8_added_41 ?_
      refine lv_iconst (pc := 44) hx hb dX8_added_44 ic_3 ?_
      refine x_iald (pc := 45) C S 1 rfl (vp_in_iff.mpr (by decide)) dX8_added_45 ?_
      refine lv_goto (tgt := 50) (pc := 46) hx hb dX8_added_46 (by decide) ?_
      exact k_X8_added_50 C (t_isKept) (t_work) (t_kind) (t_letters) (t_at) (t_fault) (o3_t_back) (o3_t_waits) (t_miles) (o3_t_loads) (t_bestRound) (t_bestPlace) (t_bestAdds) (t_regret) (t_z) (o2_t_s) (o3_t_comes) (o3_t_begins) (x2) (x3) ((r5 - r1)) ((o2_t_s (3 : Int32).toNatClampNeg)) hf S (lv_sub hl [1, 3, 4] rfl)
end

abbrev rm_X8_isIn : Room := { frames := 0, cells := 0, slots := 0, locals := 0 }
abbrev kw_X8_isIn : Cond := .code yX8_isIn cX8_isIn 3 (some .boolean)
abbrev w_X8_isIn (G : GE) : va_W := []
section
variable {p : Program} {l : Launch} {e : Env} {s : State} {m : MethodId} {args : Array Value} {below : List Frame} {meth : Method} {c : Code} {A : Nat → Prop} {G : GE} {r : Int32}
set_option maxRecDepth 100000 in
set_option maxHeartbeats 4000000 in
theorem c_X8_isIn (l : Launch) (G : GE) (x0 : Int32) (x1 : Int32) (x2 : Int32) (r : Int32) (hf : f_X8_isIn x0 x1 x2 = some r) : CI l G yX8_isIn kw_X8_isIn rm_X8_isIn [.int x0, .int x1, .int x2] (w_X8_isIn G ) r (w_X8_isIn G ) := by
  refine en_I (cc := cX8_isIn) (maxL := 3) (ret := (some .boolean)) (by decide +kernel) (Nat.le_of_ble_eq_true rfl) ?_
  intro p e s m args below meth c A ls C S hl
  have hl : lv_has ls 3 [(0, .int x0), (1, .int x1), (2, .int x2)] := hl
  have C : Cx p s m args meth c cX8_isIn (some .boolean) 3 RX8 G A := C
  unfold f_X8_isIn at hf
  have hx := C.1
  have hb := C.2.1
  have hown := C.2.2.2.2.1
  have hts := C.2.2.2.2.2.1
  have hN := C.2.2.2.2.2.2.2.2.2.2
  refine lv_iload_n (pc := 0) hx hb dX8_isIn_0 rfl (lv_at hl 0 rfl) ?_
  refine lv_iload_n (pc := 1) hx hb dX8_isIn_1 rfl (lv_at hl 1 rfl) ?_
  refine lv_icmp_lt (tgt := 14) (pc := 2) hx hb dX8_isIn_2 (by decide) (fun c1 => ?_) (fun c1 => ?_)
  · have hf := ifp c1 hf
    refine lv_iconst (pc := 14) hx hb dX8_isIn_14 ic_0 ?_
    cases hf
    exact x_zret (pc := 15) (by decide) C S dX8_isIn_15
  · have hf := ifn c1 hf
    refine lv_iload_n (pc := 5) hx hb dX8_isIn_5 rfl (lv_at hl 0 rfl) ?_
    refine lv_iload_n (pc := 6) hx hb dX8_isIn_6 rfl (lv_at hl 2 rfl) ?_
    refine lv_icmp_gt (tgt := 14) (pc := 7) hx hb dX8_isIn_7 (by decide) (fun c2 => ?_) (fun c2 => ?_)
    · have hf := ifp c2 hf
      refine lv_iconst (pc := 14) hx hb dX8_isIn_14 ic_0 ?_
      cases hf
      exact x_zret (pc := 15) (by decide) C S dX8_isIn_15
    · have hf := ifn c2 hf
      refine lv_iconst (pc := 10) hx hb dX8_isIn_10 ic_1 ?_
      refine lv_goto (tgt := 15) (pc := 11) hx hb dX8_isIn_11 (by decide) ?_
      cases hf
      exact x_zret (pc := 15) (by decide) C S dX8_isIn_15
end

abbrev rm_X8_isStop : Room := { frames := 1, cells := 0, slots := 0, locals := 22 }
abbrev kw_X8_isStop : Cond := .code yX8_isStop cX8_isStop 2 (some .boolean)
abbrev w_X8_isStop (G : GE) (a_t a_t_s a_t_image a_t_mind a_t_aside a_t_text a_t_read a_t_comes a_t_begins a_t_latest a_t_move a_t_sort a_t_items a_t_cell a_t_carried : Nat) (t_isKept : Int32) (t_work : Int32) (t_kind : Int32) (t_letters : Int32) (t_at : Int32) (t_fault : Int32) (t_back : Int32) (t_waits : Int32) (t_miles : Int32) (t_loads : Int32) (t_bestRound : Int32) (t_bestPlace : Int32) (t_bestAdds : Int32) (t_regret : Int32) (t_z : Int32) (t_s : Nat → Int32) : va_W := [(a_t, ob 8 [.ref a_t_s, .ref a_t_image, .ref a_t_mind, .ref a_t_aside, .int t_isKept, .int t_work, .int t_kind, .ref a_t_text, .ref a_t_read, .int t_letters, .int t_at, .int t_fault, .ref a_t_comes, .ref a_t_begins, .ref a_t_latest, .int t_back, .int t_waits, .int t_miles, .int t_loads, .int t_bestRound, .int t_bestPlace, .int t_bestAdds, .int t_regret, .ref a_t_move, .ref a_t_sort, .ref a_t_items, .ref a_t_cell, .ref a_t_carried, .int t_z]), (a_t_s, aI G 258 t_s)]
theorem u_X8_isStop_X8_isIn_55 {s : State} {args : Array Value} (hts : ∀ w ∈ WU, w.before args s = true) : CallB rm_X8_isStop s args RX8 55 yX8_isIn cX8_isIn 3 (some .boolean) (kw_X8_isIn :: WU) rm_X8_isIn 0 0 3 ∧ (Cond.static yX8_isIn).before args s = true := va_cwS 3 hts (gS qm_8_55 qs_X8_isIn qn_8 qc_X8_isIn) rfl rfl rfl (by decide +kernel) ⟨Nat.le_of_ble_eq_true rfl, Nat.le_of_ble_eq_true rfl⟩
section
variable {p : Program} {l : Launch} {e : Env} {s : State} {m : MethodId} {args : Array Value} {below : List Frame} {meth : Method} {c : Code} {A : Nat → Prop} {G : GE} {a_t a_t_s a_t_image a_t_mind a_t_aside a_t_text a_t_read a_t_comes a_t_begins a_t_latest a_t_move a_t_sort a_t_items a_t_cell a_t_carried : Nat} {r : Int32}
set_option maxRecDepth 100000 in
set_option maxHeartbeats 4000000 in
theorem c_X8_isStop (l : Launch) (G : GE) (a_t a_t_s a_t_image a_t_mind a_t_aside a_t_text a_t_read a_t_comes a_t_begins a_t_latest a_t_move a_t_sort a_t_items a_t_cell a_t_carried : Nat) (t_isKept : Int32) (t_work : Int32) (t_kind : Int32) (t_letters : Int32) (t_at : Int32) (t_fault : Int32) (t_back : Int32) (t_waits : Int32) (t_miles : Int32) (t_loads : Int32) (t_bestRound : Int32) (t_bestPlace : Int32) (t_bestAdds : Int32) (t_regret : Int32) (t_z : Int32) (t_s : Nat → Int32) (x1 : Int32) (r : Int32) (hf : f_X8_isStop t_s x1 = some r) : CI l G yX8_isStop kw_X8_isStop rm_X8_isStop [.ref a_t, .int x1] (w_X8_isStop G a_t a_t_s a_t_image a_t_mind a_t_aside a_t_text a_t_read a_t_comes a_t_begins a_t_latest a_t_move a_t_sort a_t_items a_t_cell a_t_carried t_isKept t_work t_kind t_letters t_at t_fault t_back t_waits t_miles t_loads t_bestRound t_bestPlace t_bestAdds t_regret t_z t_s) r (w_X8_isStop G a_t a_t_s a_t_image a_t_mind a_t_aside a_t_text a_t_read a_t_comes a_t_begins a_t_latest a_t_move a_t_sort a_t_items a_t_cell a_t_carried t_isKept t_work t_kind t_letters t_at t_fault t_back t_waits t_miles t_loads t_bestRound t_bestPlace t_bestAdds t_regret t_z t_s) := by
  refine en_I (cc := cX8_isStop) (maxL := 2) (ret := (some .boolean)) (by decide +kernel) (Nat.le_of_ble_eq_true rfl) ?_
  intro p e s m args below meth c A ls C S hl
  have hl : lv_has ls 2 [(0, .ref a_t), (1, .int x1)] := hl
  have C : Cx p s m args meth c cX8_isStop (some .boolean) 2 RX8 G A := C
  unfold f_X8_isStop at hf
  have hx := C.1
  have hb := C.2.1
  have hown := C.2.2.2.2.1
  have hts := C.2.2.2.2.2.1
  have hN := C.2.2.2.2.2.2.2.2.2.2
  refine lv_iload_n (pc := 0) hx hb dX8_isStop_0 rfl (lv_at hl 1 rfl) ?_
  refine lv_iconst (pc := 1) hx hb dX8_isStop_1 ic_0 ?_
  refine lv_aload_n (pc := 2) hx hb dX8_isStop_2 rfl (lv_at hl 0 rfl) ?_
  refine x_get (pc := 3) (ci := 8) (T := TX8) (v := .ref a_t_s) C S 0 rfl rfl inlX8 0 (by decide) rfl qf_8_11 rfl dX8_isStop_3 ?_
  refine lv_iconst (pc := 6) hx hb dX8_isStop_6 ic_4 ?_
  refine x_iald (pc := 7) C S 1 rfl (vp_in_iff.mpr (by decide)) dX8_isStop_7 ?_
  refine lv_iconst (pc := 8) hx hb dX8_isStop_8 ic_1 ?_
  refine lv_isub (pc := 9) hx hb dX8_isStop_9 ?_
  obtain ⟨r1, hq1, hf⟩ := bd_e hf
  refine x_sI (pc := 10) (As := [.int x1, .int (0 : Int32), .int ((t_s (4 : Int32).toNatClampNeg) - (1 : Int32))]) (rest := []) (isC := []) (ws' := (w_X8_isStop G a_t a_t_s a_t_image a_t_mind a_t_aside a_t_text a_t_read a_t_comes a_t_begins a_t_latest a_t_move a_t_sort a_t_items a_t_cell a_t_carried t_isKept t_work t_kind t_letters t_at t_fault t_back t_waits t_miles t_loads t_bestRound t_bestPlace t_bestAdds t_regret t_z t_s)) C S (c_X8_isIn l G x1 (0 : Int32) ((t_s (4 : Int32).toNatClampNeg) - (1 : Int32)) r1 hq1) (u_X8_isStop_X8_isIn_55 hts) rfl (by decide +kernel) [none, none] (by decide +kernel) rfl rfl rfl hl.1 rfl (Nat.le_of_ble_eq_true rfl) dX8_isStop_10 (fun H locs S => ?_)
  obtain ⟨hz2, hf⟩ := gd_e hf
  cases hf
  exact x_zret (pc := 13) hz2 C S dX8_isStop_13
end

abbrev rm_X8_isRound : Room := { frames := 1, cells := 0, slots := 0, locals := 22 }
abbrev kw_X8_isRound : Cond := .code yX8_isRound cX8_isRound 1 (some .boolean)
abbrev w_X8_isRound (G : GE) : va_W := []
theorem u_X8_isRound_X8_isIn_55 {s : State} {args : Array Value} (hts : ∀ w ∈ WU, w.before args s = true) : CallB rm_X8_isRound s args RX8 55 yX8_isIn cX8_isIn 3 (some .boolean) (kw_X8_isIn :: WU) rm_X8_isIn 0 0 3 ∧ (Cond.static yX8_isIn).before args s = true := va_cwS 3 hts (gS qm_8_55 qs_X8_isIn qn_8 qc_X8_isIn) rfl rfl rfl (by decide +kernel) ⟨Nat.le_of_ble_eq_true rfl, Nat.le_of_ble_eq_true rfl⟩
section
variable {p : Program} {l : Launch} {e : Env} {s : State} {m : MethodId} {args : Array Value} {below : List Frame} {meth : Method} {c : Code} {A : Nat → Prop} {G : GE} {r : Int32}
set_option maxRecDepth 100000 in
set_option maxHeartbeats 4000000 in
theorem c_X8_isRound (l : Launch) (G : GE) (x0 : Int32) (r : Int32) (hf : f_X8_isRound x0 = some r) : CI l G yX8_isRound kw_X8_isRound rm_X8_isRound [.int x0] (w_X8_isRound G ) r (w_X8_isRound G ) := by
  refine en_I (cc := cX8_isRound) (maxL := 1) (ret := (some .boolean)) (by decide +kernel) (Nat.le_of_ble_eq_true rfl) ?_
  intro p e s m args below meth c A ls C S hl
  have hl : lv_has ls 1 [(0, .int x0)] := hl
  have C : Cx p s m args meth c cX8_isRound (some .boolean) 1 RX8 G A := C
  unfold f_X8_isRound at hf
  have hx := C.1
  have hb := C.2.1
  have hown := C.2.2.2.2.1
  have hts := C.2.2.2.2.2.1
  have hN := C.2.2.2.2.2.2.2.2.2.2
  refine lv_iload_n (pc := 0) hx hb dX8_isRound_0 rfl (lv_at hl 0 rfl) ?_
  refine lv_iconst (pc := 1) hx hb dX8_isRound_1 ic_0 ?_
  refine lv_iconst (pc := 2) hx hb dX8_isRound_2 ic_3 ?_
  obtain ⟨r1, hq1, hf⟩ := bd_e hf
  refine x_sI (pc := 3) (As := [.int x0, .int (0 : Int32), .int (3 : Int32)]) (rest := []) (isC := []) (ws' := (w_X8_isRound G )) C S (c_X8_isIn l G x0 (0 : Int32) (3 : Int32) r1 hq1) (u_X8_isRound_X8_isIn_55 hts) rfl (by decide +kernel) [] (by decide +kernel) rfl rfl rfl hl.1 rfl (Nat.le_of_ble_eq_true rfl) dX8_isRound_3 (fun H locs S => ?_)
  obtain ⟨hz2, hf⟩ := gd_e hf
  cases hf
  exact x_zret (pc := 6) hz2 C S dX8_isRound_6
end

abbrev rm_X8_placeIn : Room := { frames := 1, cells := 0, slots := 0, locals := 22 }
abbrev kw_X8_placeIn : Cond := .code yX8_placeIn cX8_placeIn 4 (some .int)
abbrev w_X8_placeIn (G : GE) (a_t a_t_s a_t_image a_t_mind a_t_aside a_t_text a_t_read a_t_comes a_t_begins a_t_latest a_t_move a_t_sort a_t_items a_t_cell a_t_carried : Nat) (t_isKept : Int32) (t_work : Int32) (t_kind : Int32) (t_letters : Int32) (t_at : Int32) (t_fault : Int32) (t_back : Int32) (t_waits : Int32) (t_miles : Int32) (t_loads : Int32) (t_bestRound : Int32) (t_bestPlace : Int32) (t_bestAdds : Int32) (t_regret : Int32) (t_z : Int32) (t_s : Nat → Int32) : va_W := [(a_t, ob 8 [.ref a_t_s, .ref a_t_image, .ref a_t_mind, .ref a_t_aside, .int t_isKept, .int t_work, .int t_kind, .ref a_t_text, .ref a_t_read, .int t_letters, .int t_at, .int t_fault, .ref a_t_comes, .ref a_t_begins, .ref a_t_latest, .int t_back, .int t_waits, .int t_miles, .int t_loads, .int t_bestRound, .int t_bestPlace, .int t_bestAdds, .int t_regret, .ref a_t_move, .ref a_t_sort, .ref a_t_items, .ref a_t_cell, .ref a_t_carried, .int t_z]), (a_t_s, aI G 258 t_s)]
theorem u_X8_placeIn_X8_roundAt_59 {s : State} {args : Array Value} (hts : ∀ w ∈ WU, w.before args s = true) : CallW rm_X8_placeIn s args RX8 RX8 59 yX8_roundAt cX8_roundAt 3 (some .int) (kw_X8_roundAt :: WU) rm_X8_roundAt 0 0 2 := cwV 2 hts (gV qm_8_59 qi_X8_roundAt ql_X8_roundAt qn_8 qc_X8_roundAt) rfl rfl rfl (by decide +kernel) ⟨Nat.le_of_ble_eq_true rfl, Nat.le_of_ble_eq_true rfl⟩
theorem u_X8_placeIn_X8_inRow_63 {s : State} {args : Array Value} (hts : ∀ w ∈ WU, w.before args s = true) : CallW rm_X8_placeIn s args RX8 RX8 63 yX8_inRow cX8_inRow 3 (some .int) (kw_X8_inRow :: WU) rm_X8_inRow 0 0 2 := cwV 2 hts (gV qm_8_63 qi_X8_inRow ql_X8_inRow qn_8 qc_X8_inRow) rfl rfl rfl (by decide +kernel) ⟨Nat.le_of_ble_eq_true rfl, Nat.le_of_ble_eq_true rfl⟩
section
variable {p : Program} {l : Launch} {e : Env} {s : State} {m : MethodId} {args : Array Value} {below : List Frame} {meth : Method} {c : Code} {A : Nat → Prop} {G : GE} {a_t a_t_s a_t_image a_t_mind a_t_aside a_t_text a_t_read a_t_comes a_t_begins a_t_latest a_t_move a_t_sort a_t_items a_t_cell a_t_carried : Nat} {r : Int32}
set_option maxRecDepth 100000 in
set_option maxHeartbeats 4000000 in
theorem k_X8_placeIn_2 (C : Cx p s m args meth c cX8_placeIn (some .int) 4 RX8 G A) (t_isKept : Int32) (t_work : Int32) (t_kind : Int32) (t_letters : Int32) (t_at : Int32) (t_fault : Int32) (t_back : Int32) (t_waits : Int32) (t_miles : Int32) (t_loads : Int32) (t_bestRound : Int32) (t_bestPlace : Int32) (t_bestAdds : Int32) (t_regret : Int32) (t_z : Int32) (t_s : Nat → Int32) (x1 : Int32) (x2 : Int32) (x3 : Int32) (k2 : Int32 → Option (Int32)) (hk2 : ∀ {H : Heap} {locs : List Loc} {ls : Array Slot} (x3' : Int32), k2 x3' = some r → St G A s.heap H locs (w_X8_placeIn G a_t a_t_s a_t_image a_t_mind a_t_aside a_t_text a_t_read a_t_comes a_t_begins a_t_latest a_t_move a_t_sort a_t_items a_t_cell a_t_carried t_isKept t_work t_kind t_letters t_at t_fault t_back t_waits t_miles t_loads t_bestRound t_bestPlace t_bestAdds t_regret t_z t_s) → lv_has ls 4 [(0, .ref a_t), (1, .int x1), (2, .int x2), (3, .int x3')] → W p l e rm_X8_placeIn s m args below meth c H locs 0 0 (QI G below args s A r (w_X8_placeIn G a_t a_t_s a_t_image a_t_mind a_t_aside a_t_text a_t_read a_t_comes a_t_begins a_t_latest a_t_move a_t_sort a_t_items a_t_cell a_t_carried t_isKept t_work t_kind t_letters t_at t_fault t_back t_waits t_miles t_loads t_bestRound t_bestPlace t_bestAdds t_regret t_z t_s)) (F0 m 2 ls [])) {H : Heap} {locs : List Loc} {ls : Array Slot} (hf : b_X8_placeIn_2 x1 x2 t_s k2 x3 = some r) (S : St G A s.heap H locs (w_X8_placeIn G a_t a_t_s a_t_image a_t_mind a_t_aside a_t_text a_t_read a_t_comes a_t_begins a_t_latest a_t_move a_t_sort a_t_items a_t_cell a_t_carried t_isKept t_work t_kind t_letters t_at t_fault t_back t_waits t_miles t_loads t_bestRound t_bestPlace t_bestAdds t_regret t_z t_s)) (hl : lv_has ls 4 [(0, .ref a_t), (1, .int x1), (2, .int x2), (3, .int x3)]) : W p l e rm_X8_placeIn s m args below meth c H locs 0 0 (QI G below args s A r (w_X8_placeIn G a_t a_t_s a_t_image a_t_mind a_t_aside a_t_text a_t_read a_t_comes a_t_begins a_t_latest a_t_move a_t_sort a_t_items a_t_cell a_t_carried t_isKept t_work t_kind t_letters t_at t_fault t_back t_waits t_miles t_loads t_bestRound t_bestPlace t_bestAdds t_regret t_z t_s)) (F0 m 2 ls []) := by
  unfold b_X8_placeIn_2 at hf
  have hx := C.1
  have hb := C.2.1
  have hown := C.2.2.2.2.1
  have hts := C.2.2.2.2.2.1
  have hN := C.2.2.2.2.2.2.2.2.2.2
  refine lv_iload_n (pc := 2) hx hb dX8_placeIn_2 rfl (lv_at hl 3 rfl) ?_
  refine lv_aload_n (pc := 3) hx hb dX8_placeIn_3 rfl (lv_at hl 0 rfl) ?_
  refine lv_iload_n (pc := 4) hx hb dX8_placeIn_4 rfl (lv_at hl 1 rfl) ?_
  refine lv_iconst (pc := 5) hx hb dX8_placeIn_5 ic_3 ?_
  obtain ⟨r1, hq1, hf⟩ := bd_e hf
  refine x_vI (pc := 6) (As := [.int x1, .int (3 : Int32)]) (rest := [.int x3]) (isC := [0, 1]) (ws' := (w_X8_placeIn G a_t a_t_s a_t_image a_t_mind a_t_aside a_t_text a_t_read a_t_comes a_t_begins a_t_latest a_t_move a_t_sort a_t_items a_t_cell a_t_carried t_isKept t_work t_kind t_letters t_at t_fault t_back t_waits t_miles t_loads t_bestRound t_bestPlace t_bestAdds t_regret t_z t_s)) C S (c_X8_roundAt l G a_t a_t_s a_t_image a_t_mind a_t_aside a_t_text a_t_read a_t_comes a_t_begins a_t_latest a_t_move a_t_sort a_t_items a_t_cell a_t_carried t_isKept t_work t_kind t_letters t_at t_fault t_back t_waits t_miles t_loads t_bestRound t_bestPlace t_bestAdds t_regret t_z t_s x1 (3 : Int32) r1 hq1) (u_X8_placeIn_X8_roundAt_59 hts) (ci := 8) rfl 0 rfl rfl (by decide +kernel) [some 0, some 1] (by decide +kernel) rfl rfl rfl hl.1 rfl (Nat.le_of_ble_eq_true rfl) dX8_placeIn_6 (fun H locs S => ?_)
  refine lv_icmp_ge (tgt := 30) (pc := 9) hx hb dX8_placeIn_9 (by decide) (fun c2 => ?_) (fun c2 => ?_)
  · have hf := ifp c2 hf
    refine lv_bipush (pc := 30) hx hb dX8_placeIn_30 bc_m5 ?_
    cases hf
    exact x_iret (pc := 32) C S dX8_placeIn_32
  · have hf := ifn c2 hf
    refine lv_aload_n (pc := 12) hx hb dX8_placeIn_12 rfl (lv_at hl 0 rfl) ?_
    refine lv_iload_n (pc := 13) hx hb dX8_placeIn_13 rfl (lv_at hl 1 rfl) ?_
    refine lv_iload_n (pc := 14) hx hb dX8_placeIn_14 rfl (lv_at hl 3 rfl) ?_
    obtain ⟨r3, hq3, hf⟩ := bd_e hf
    refine x_vI (pc := 15) (As := [.int x1, .int x3]) (rest := []) (isC := [0, 1]) (ws' := (w_X8_placeIn G a_t a_t_s a_t_image a_t_mind a_t_aside a_t_text a_t_read a_t_comes a_t_begins a_t_latest a_t_move a_t_sort a_t_items a_t_cell a_t_carried t_isKept t_work t_kind t_letters t_at t_fault t_back t_waits t_miles t_loads t_bestRound t_bestPlace t_bestAdds t_regret t_z t_s)) C S (c_X8_inRow l G a_t a_t_s a_t_image a_t_mind a_t_aside a_t_text a_t_read a_t_comes a_t_begins a_t_latest a_t_move a_t_sort a_t_items a_t_cell a_t_carried t_isKept t_work t_kind t_letters t_at t_fault t_back t_waits t_miles t_loads t_bestRound t_bestPlace t_bestAdds t_regret t_z t_s x1 x3 r3 hq3) (u_X8_placeIn_X8_inRow_63 hts) (ci := 8) rfl 0 rfl rfl (by decide +kernel) [some 0, some 1] (by decide +kernel) rfl rfl rfl hl.1 rfl (Nat.le_of_ble_eq_true rfl) dX8_placeIn_15 (fun H locs S => ?_)
    refine lv_iload_n (pc := 18) hx hb dX8_placeIn_18 rfl (lv_at hl 2 rfl) ?_
    refine lv_icmp_ne (tgt := 24) (pc := 19) hx hb dX8_placeIn_19 (by decide) (fun c4 => ?_) (fun c4 => ?_)
    · have hf := ifn c4 hf
      refine lv_iinc (pc := 24) (v := (x3 + (1 : Int32))) (lv' := [(3, .int (x3 + (1 : Int32))), (0, .ref a_t), (1, .int x1), (2, .int x2)]) hx hb dX8_placeIn_24 hl (k := 3) rfl (congrArg (fun z => x3 + z) ic_1) (by decide) rfl (fun ls hl => ?_)
      refine lv_goto (tgt := 2) (pc := 27) hx hb dX8_placeIn_27 (by decide) ?_
      exact hk2 ((x3 + (1 : Int32)))  hf S (lv_sub hl [1, 2, 3, 0] rfl)
    · have hf := ifp c4 hf
      refine lv_iload_n (pc := 22) hx hb dX8_placeIn_22 rfl (lv_at hl 3 rfl) ?_
      cases hf
      exact x_iret (pc := 23) C S dX8_placeIn_23
set_option maxRecDepth 100000 in
set_option maxHeartbeats 4000000 in
theorem h_X8_placeIn_2 (C : Cx p s m args meth c cX8_placeIn (some .int) 4 RX8 G A) (t_isKept : Int32) (t_work : Int32) (t_kind : Int32) (t_letters : Int32) (t_at : Int32) (t_fault : Int32) (t_back : Int32) (t_waits : Int32) (t_miles : Int32) (t_loads : Int32) (t_bestRound : Int32) (t_bestPlace : Int32) (t_bestAdds : Int32) (t_regret : Int32) (t_z : Int32) (t_s : Nat → Int32) (x1 : Int32) (x2 : Int32) : ∀ (n : Nat) (x3 : Int32) {H : Heap} {locs : List Loc} {ls : Array Slot} (hf : lp (fun k x => b_X8_placeIn_2 x1 x2 t_s k x) n x3 = some r) (S : St G A s.heap H locs (w_X8_placeIn G a_t a_t_s a_t_image a_t_mind a_t_aside a_t_text a_t_read a_t_comes a_t_begins a_t_latest a_t_move a_t_sort a_t_items a_t_cell a_t_carried t_isKept t_work t_kind t_letters t_at t_fault t_back t_waits t_miles t_loads t_bestRound t_bestPlace t_bestAdds t_regret t_z t_s)) (hl : lv_has ls 4 [(0, .ref a_t), (1, .int x1), (2, .int x2), (3, .int x3)]), W p l e rm_X8_placeIn s m args below meth c H locs 0 0 (QI G below args s A r (w_X8_placeIn G a_t a_t_s a_t_image a_t_mind a_t_aside a_t_text a_t_read a_t_comes a_t_begins a_t_latest a_t_move a_t_sort a_t_items a_t_cell a_t_carried t_isKept t_work t_kind t_letters t_at t_fault t_back t_waits t_miles t_loads t_bestRound t_bestPlace t_bestAdds t_regret t_z t_s)) (F0 m 2 ls []) := by
  intro n
  induction n with
  | zero =>
    intro x3  H locs ls hf
    cases hf
  | succ n ih =>
    intro x3  H locs ls hf S hl
    have hf : b_X8_placeIn_2 x1 x2 t_s (lp (fun k x => b_X8_placeIn_2 x1 x2 t_s k x) n) x3 = some r := hf
    exact k_X8_placeIn_2 C t_isKept t_work t_kind t_letters t_at t_fault t_back t_waits t_miles t_loads t_bestRound t_bestPlace t_bestAdds t_regret t_z t_s x1 x2 x3  (lp (fun k x => b_X8_placeIn_2 x1 x2 t_s k x) n) (fun x3'  h S hl => ih x3'  h S hl) hf S hl
set_option maxRecDepth 100000 in
set_option maxHeartbeats 4000000 in
theorem c_X8_placeIn (l : Launch) (G : GE) (a_t a_t_s a_t_image a_t_mind a_t_aside a_t_text a_t_read a_t_comes a_t_begins a_t_latest a_t_move a_t_sort a_t_items a_t_cell a_t_carried : Nat) (t_isKept : Int32) (t_work : Int32) (t_kind : Int32) (t_letters : Int32) (t_at : Int32) (t_fault : Int32) (t_back : Int32) (t_waits : Int32) (t_miles : Int32) (t_loads : Int32) (t_bestRound : Int32) (t_bestPlace : Int32) (t_bestAdds : Int32) (t_regret : Int32) (t_z : Int32) (t_s : Nat → Int32) (x1 : Int32) (x2 : Int32) (r : Int32) (hf : f_X8_placeIn t_s x1 x2 = some r) : CI l G yX8_placeIn kw_X8_placeIn rm_X8_placeIn [.ref a_t, .int x1, .int x2] (w_X8_placeIn G a_t a_t_s a_t_image a_t_mind a_t_aside a_t_text a_t_read a_t_comes a_t_begins a_t_latest a_t_move a_t_sort a_t_items a_t_cell a_t_carried t_isKept t_work t_kind t_letters t_at t_fault t_back t_waits t_miles t_loads t_bestRound t_bestPlace t_bestAdds t_regret t_z t_s) r (w_X8_placeIn G a_t a_t_s a_t_image a_t_mind a_t_aside a_t_text a_t_read a_t_comes a_t_begins a_t_latest a_t_move a_t_sort a_t_items a_t_cell a_t_carried t_isKept t_work t_kind t_letters t_at t_fault t_back t_waits t_miles t_loads t_bestRound t_bestPlace t_bestAdds t_regret t_z t_s) := by
  refine en_I (cc := cX8_placeIn) (maxL := 4) (ret := (some .int)) (by decide +kernel) (Nat.le_of_ble_eq_true rfl) ?_
  intro p e s m args below meth c A ls C S hl
  have hl : lv_has ls 4 [(0, .ref a_t), (1, .int x1), (2, .int x2)] := hl
  have C : Cx p s m args meth c cX8_placeIn (some .int) 4 RX8 G A := C
  unfold f_X8_placeIn at hf
  have hx := C.1
  have hb := C.2.1
  have hown := C.2.2.2.2.1
  have hts := C.2.2.2.2.2.1
  have hN := C.2.2.2.2.2.2.2.2.2.2
  refine lv_iconst (pc := 0) hx hb dX8_placeIn_0 ic_0 ?_
  refine lv_istore_n (pc := 1) (lv' := [(3, .int (0 : Int32)), (0, .ref a_t), (1, .int x1), (2, .int x2)]) hx hb dX8_placeIn_1 rfl hl (by decide) rfl (fun ls hl => ?_)
  exact h_X8_placeIn_2 C (t_isKept) (t_work) (t_kind) (t_letters) (t_at) (t_fault) (t_back) (t_waits) (t_miles) (t_loads) (t_bestRound) (t_bestPlace) (t_bestAdds) (t_regret) (t_z) (t_s) (x1) (x2) fu ((0 : Int32)) hf S (lv_sub hl [1, 2, 3, 0] rfl)
end

abbrev rm_X8_roundOf : Room := { frames := 2, cells := 0, slots := 0, locals := 45 }
abbrev kw_X8_roundOf : Cond := .code yX8_roundOf cX8_roundOf 3 (some .int)
abbrev w_X8_roundOf (G : GE) (a_t a_t_s a_t_image a_t_mind a_t_aside a_t_text a_t_read a_t_comes a_t_begins a_t_latest a_t_move a_t_sort a_t_items a_t_cell a_t_carried : Nat) (t_isKept : Int32) (t_work : Int32) (t_kind : Int32) (t_letters : Int32) (t_at : Int32) (t_fault : Int32) (t_back : Int32) (t_waits : Int32) (t_miles : Int32) (t_loads : Int32) (t_bestRound : Int32) (t_bestPlace : Int32) (t_bestAdds : Int32) (t_regret : Int32) (t_z : Int32) (t_s : Nat → Int32) : va_W := [(a_t, ob 8 [.ref a_t_s, .ref a_t_image, .ref a_t_mind, .ref a_t_aside, .int t_isKept, .int t_work, .int t_kind, .ref a_t_text, .ref a_t_read, .int t_letters, .int t_at, .int t_fault, .ref a_t_comes, .ref a_t_begins, .ref a_t_latest, .int t_back, .int t_waits, .int t_miles, .int t_loads, .int t_bestRound, .int t_bestPlace, .int t_bestAdds, .int t_regret, .ref a_t_move, .ref a_t_sort, .ref a_t_items, .ref a_t_cell, .ref a_t_carried, .int t_z]), (a_t_s, aI G 258 t_s)]
theorem u_X8_roundOf_X8_placeIn_66 {s : State} {args : Array Value} (hts : ∀ w ∈ WU, w.before args s = true) : CallW rm_X8_roundOf s args RX8 RX8 66 yX8_placeIn cX8_placeIn 4 (some .int) (kw_X8_placeIn :: WU) rm_X8_placeIn 0 0 2 := cwV 2 hts (gV qm_8_66 qi_X8_placeIn ql_X8_placeIn qn_8 qc_X8_placeIn) rfl rfl rfl (by decide +kernel) ⟨Nat.le_of_ble_eq_true rfl, Nat.le_of_ble_eq_true rfl⟩
section
variable {p : Program} {l : Launch} {e : Env} {s : State} {m : MethodId} {args : Array Value} {below : List Frame} {meth : Method} {c : Code} {A : Nat → Prop} {G : GE} {a_t a_t_s a_t_image a_t_mind a_t_aside a_t_text a_t_read a_t_comes a_t_begins a_t_latest a_t_move a_t_sort a_t_items a_t_cell a_t_carried : Nat} {r : Int32}
set_option maxRecDepth 100000 in
set_option maxHeartbeats 4000000 in
theorem k_X8_roundOf_2 (C : Cx p s m args meth c cX8_roundOf (some .int) 3 RX8 G A) (t_isKept : Int32) (t_work : Int32) (t_kind : Int32) (t_letters : Int32) (t_at : Int32) (t_fault : Int32) (t_back : Int32) (t_waits : Int32) (t_miles : Int32) (t_loads : Int32) (t_bestRound : Int32) (t_bestPlace : Int32) (t_bestAdds : Int32) (t_regret : Int32) (t_z : Int32) (t_s : Nat → Int32) (x1 : Int32) (x2 : Int32) (k2 : Int32 → Option (Int32)) (hk2 : ∀ {H : Heap} {locs : List Loc} {ls : Array Slot} (x2' : Int32), k2 x2' = some r → St G A s.heap H locs (w_X8_roundOf G a_t a_t_s a_t_image a_t_mind a_t_aside a_t_text a_t_read a_t_comes a_t_begins a_t_latest a_t_move a_t_sort a_t_items a_t_cell a_t_carried t_isKept t_work t_kind t_letters t_at t_fault t_back t_waits t_miles t_loads t_bestRound t_bestPlace t_bestAdds t_regret t_z t_s) → lv_has ls 3 [(0, .ref a_t), (1, .int x1), (2, .int x2')] → W p l e rm_X8_roundOf s m args below meth c H locs 0 0 (QI G below args s A r (w_X8_roundOf G a_t a_t_s a_t_image a_t_mind a_t_aside a_t_text a_t_read a_t_comes a_t_begins a_t_latest a_t_move a_t_sort a_t_items a_t_cell a_t_carried t_isKept t_work t_kind t_letters t_at t_fault t_back t_waits t_miles t_loads t_bestRound t_bestPlace t_bestAdds t_regret t_z t_s)) (F0 m 2 ls [])) {H : Heap} {locs : List Loc} {ls : Array Slot} (hf : b_X8_roundOf_2 x1 t_s k2 x2 = some r) (S : St G A s.heap H locs (w_X8_roundOf G a_t a_t_s a_t_image a_t_mind a_t_aside a_t_text a_t_read a_t_comes a_t_begins a_t_latest a_t_move a_t_sort a_t_items a_t_cell a_t_carried t_isKept t_work t_kind t_letters t_at t_fault t_back t_waits t_miles t_loads t_bestRound t_bestPlace t_bestAdds t_regret t_z t_s)) (hl : lv_has ls 3 [(0, .ref a_t), (1, .int x1), (2, .int x2)]) : W p l e rm_X8_roundOf s m args below meth c H locs 0 0 (QI G below args s A r (w_X8_roundOf G a_t a_t_s a_t_image a_t_mind a_t_aside a_t_text a_t_read a_t_comes a_t_begins a_t_latest a_t_move a_t_sort a_t_items a_t_cell a_t_carried t_isKept t_work t_kind t_letters t_at t_fault t_back t_waits t_miles t_loads t_bestRound t_bestPlace t_bestAdds t_regret t_z t_s)) (F0 m 2 ls []) := by
  unfold b_X8_roundOf_2 at hf
  have hx := C.1
  have hb := C.2.1
  have hown := C.2.2.2.2.1
  have hts := C.2.2.2.2.2.1
  have hN := C.2.2.2.2.2.2.2.2.2.2
  refine lv_iload_n (pc := 2) hx hb dX8_roundOf_2 rfl (lv_at hl 2 rfl) ?_
  refine lv_iconst (pc := 3) hx hb dX8_roundOf_3 ic_4 ?_
  refine lv_icmp_ge (tgt := 24) (pc := 4) hx hb dX8_roundOf_4 (by decide) (fun c1 => ?_) (fun c1 => ?_)
  · have hf := ifp c1 hf
    refine lv_bipush (pc := 24) hx hb dX8_roundOf_24 bc_m5 ?_
    cases hf
    exact x_iret (pc := 26) C S dX8_roundOf_26
  · have hf := ifn c1 hf
    refine lv_aload_n (pc := 7) hx hb dX8_roundOf_7 rfl (lv_at hl 0 rfl) ?_
    refine lv_iload_n (pc := 8) hx hb dX8_roundOf_8 rfl (lv_at hl 2 rfl) ?_
    refine lv_iload_n (pc := 9) hx hb dX8_roundOf_9 rfl (lv_at hl 1 rfl) ?_
    obtain ⟨r2, hq2, hf⟩ := bd_e hf
    refine x_vI (pc := 10) (As := [.int x2, .int x1]) (rest := []) (isC := [0, 1]) (ws' := (w_X8_roundOf G a_t a_t_s a_t_image a_t_mind a_t_aside a_t_text a_t_read a_t_comes a_t_begins a_t_latest a_t_move a_t_sort a_t_items a_t_cell a_t_carried t_isKept t_work t_kind t_letters t_at t_fault t_back t_waits t_miles t_loads t_bestRound t_bestPlace t_bestAdds t_regret t_z t_s)) C S (c_X8_placeIn l G a_t a_t_s a_t_image a_t_mind a_t_aside a_t_text a_t_read a_t_comes a_t_begins a_t_latest a_t_move a_t_sort a_t_items a_t_cell a_t_carried t_isKept t_work t_kind t_letters t_at t_fault t_back t_waits t_miles t_loads t_bestRound t_bestPlace t_bestAdds t_regret t_z t_s x2 x1 r2 hq2) (u_X8_roundOf_X8_placeIn_66 hts) (ci := 8) rfl 0 rfl rfl (by decide +kernel) [some 0, some 1] (by decide +kernel) rfl rfl rfl hl.1 rfl (Nat.le_of_ble_eq_true rfl) dX8_roundOf_10 (fun H locs S => ?_)
    refine lv_if_lt (tgt := 18) (pc := 13) hx hb dX8_roundOf_13 (by decide) (fun c3 => ?_) (fun c3 => ?_)
    · have hf := ifp c3 hf
      refine lv_iinc (pc := 18) (v := (x2 + (1 : Int32))) (lv' := [(2, .int (x2 + (1 : Int32))), (0, .ref a_t), (1, .int x1)]) hx hb dX8_roundOf_18 hl (k := 2) rfl (congrArg (fun z => x2 + z) ic_1) (by decide) rfl (fun ls hl => ?_)
      refine lv_goto (tgt := 2) (pc := 21) hx hb dX8_roundOf_21 (by decide) ?_
      exact hk2 ((x2 + (1 : Int32)))  hf S (lv_sub hl [1, 2, 0] rfl)
    · have hf := ifn c3 hf
      refine lv_iload_n (pc := 16) hx hb dX8_roundOf_16 rfl (lv_at hl 2 rfl) ?_
      cases hf
      exact x_iret (pc := 17) C S dX8_roundOf_17
set_option maxRecDepth 100000 in
set_option maxHeartbeats 4000000 in
theorem h_X8_roundOf_2 (C : Cx p s m args meth c cX8_roundOf (some .int) 3 RX8 G A) (t_isKept : Int32) (t_work : Int32) (t_kind : Int32) (t_letters : Int32) (t_at : Int32) (t_fault : Int32) (t_back : Int32) (t_waits : Int32) (t_miles : Int32) (t_loads : Int32) (t_bestRound : Int32) (t_bestPlace : Int32) (t_bestAdds : Int32) (t_regret : Int32) (t_z : Int32) (t_s : Nat → Int32) (x1 : Int32) : ∀ (n : Nat) (x2 : Int32) {H : Heap} {locs : List Loc} {ls : Array Slot} (hf : lp (fun k x => b_X8_roundOf_2 x1 t_s k x) n x2 = some r) (S : St G A s.heap H locs (w_X8_roundOf G a_t a_t_s a_t_image a_t_mind a_t_aside a_t_text a_t_read a_t_comes a_t_begins a_t_latest a_t_move a_t_sort a_t_items a_t_cell a_t_carried t_isKept t_work t_kind t_letters t_at t_fault t_back t_waits t_miles t_loads t_bestRound t_bestPlace t_bestAdds t_regret t_z t_s)) (hl : lv_has ls 3 [(0, .ref a_t), (1, .int x1), (2, .int x2)]), W p l e rm_X8_roundOf s m args below meth c H locs 0 0 (QI G below args s A r (w_X8_roundOf G a_t a_t_s a_t_image a_t_mind a_t_aside a_t_text a_t_read a_t_comes a_t_begins a_t_latest a_t_move a_t_sort a_t_items a_t_cell a_t_carried t_isKept t_work t_kind t_letters t_at t_fault t_back t_waits t_miles t_loads t_bestRound t_bestPlace t_bestAdds t_regret t_z t_s)) (F0 m 2 ls []) := by
  intro n
  induction n with
  | zero =>
    intro x2  H locs ls hf
    cases hf
  | succ n ih =>
    intro x2  H locs ls hf S hl
    have hf : b_X8_roundOf_2 x1 t_s (lp (fun k x => b_X8_roundOf_2 x1 t_s k x) n) x2 = some r := hf
    exact k_X8_roundOf_2 C t_isKept t_work t_kind t_letters t_at t_fault t_back t_waits t_miles t_loads t_bestRound t_bestPlace t_bestAdds t_regret t_z t_s x1 x2  (lp (fun k x => b_X8_roundOf_2 x1 t_s k x) n) (fun x2'  h S hl => ih x2'  h S hl) hf S hl
set_option maxRecDepth 100000 in
set_option maxHeartbeats 4000000 in
theorem c_X8_roundOf (l : Launch) (G : GE) (a_t a_t_s a_t_image a_t_mind a_t_aside a_t_text a_t_read a_t_comes a_t_begins a_t_latest a_t_move a_t_sort a_t_items a_t_cell a_t_carried : Nat) (t_isKept : Int32) (t_work : Int32) (t_kind : Int32) (t_letters : Int32) (t_at : Int32) (t_fault : Int32) (t_back : Int32) (t_waits : Int32) (t_miles : Int32) (t_loads : Int32) (t_bestRound : Int32) (t_bestPlace : Int32) (t_bestAdds : Int32) (t_regret : Int32) (t_z : Int32) (t_s : Nat → Int32) (x1 : Int32) (r : Int32) (hf : f_X8_roundOf t_s x1 = some r) : CI l G yX8_roundOf kw_X8_roundOf rm_X8_roundOf [.ref a_t, .int x1] (w_X8_roundOf G a_t a_t_s a_t_image a_t_mind a_t_aside a_t_text a_t_read a_t_comes a_t_begins a_t_latest a_t_move a_t_sort a_t_items a_t_cell a_t_carried t_isKept t_work t_kind t_letters t_at t_fault t_back t_waits t_miles t_loads t_bestRound t_bestPlace t_bestAdds t_regret t_z t_s) r (w_X8_roundOf G a_t a_t_s a_t_image a_t_mind a_t_aside a_t_text a_t_read a_t_comes a_t_begins a_t_latest a_t_move a_t_sort a_t_items a_t_cell a_t_carried t_isKept t_work t_kind t_letters t_at t_fault t_back t_waits t_miles t_loads t_bestRound t_bestPlace t_bestAdds t_regret t_z t_s) := by
  refine en_I (cc := cX8_roundOf) (maxL := 3) (ret := (some .int)) (by decide +kernel) (Nat.le_of_ble_eq_true rfl) ?_
  intro p e s m args below meth c A ls C S hl
  have hl : lv_has ls 3 [(0, .ref a_t), (1, .int x1)] := hl
  have C : Cx p s m args meth c cX8_roundOf (some .int) 3 RX8 G A := C
  unfold f_X8_roundOf at hf
  have hx := C.1
  have hb := C.2.1
  have hown := C.2.2.2.2.1
  have hts := C.2.2.2.2.2.1
  have hN := C.2.2.2.2.2.2.2.2.2.2
  refine lv_iconst (pc := 0) hx hb dX8_roundOf_0 ic_0 ?_
  refine lv_istore_n (pc := 1) (lv' := [(2, .int (0 : Int32)), (0, .ref a_t), (1, .int x1)]) hx hb dX8_roundOf_1 rfl hl (by decide) rfl (fun ls hl => ?_)
  exact h_X8_roundOf_2 C (t_isKept) (t_work) (t_kind) (t_letters) (t_at) (t_fault) (t_back) (t_waits) (t_miles) (t_loads) (t_bestRound) (t_bestPlace) (t_bestAdds) (t_regret) (t_z) (t_s) (x1) fu ((0 : Int32)) hf S (lv_sub hl [1, 2, 0] rfl)
end

abbrev rm_X8_adds : Room := { frames := 6, cells := 0, slots := 0, locals := 145 }
abbrev kw_X8_adds : Cond := .code yX8_adds cX8_adds 5 (some .int)
abbrev w_X8_adds (G : GE) (a_t a_t_s a_t_image a_t_mind a_t_aside a_t_text a_t_read a_t_comes a_t_begins a_t_latest a_t_move a_t_sort a_t_items a_t_cell a_t_carried : Nat) (t_isKept : Int32) (t_work : Int32) (t_kind : Int32) (t_letters : Int32) (t_at : Int32) (t_fault : Int32) (t_back : Int32) (t_waits : Int32) (t_miles : Int32) (t_loads : Int32) (t_bestRound : Int32) (t_bestPlace : Int32) (t_bestAdds : Int32) (t_regret : Int32) (t_z : Int32) (t_s : Nat → Int32) (t_comes : Nat → Int32) (t_begins : Nat → Int32) : va_W := [(a_t, ob 8 [.ref a_t_s, .ref a_t_image, .ref a_t_mind, .ref a_t_aside, .int t_isKept, .int t_work, .int t_kind, .ref a_t_text, .ref a_t_read, .int t_letters, .int t_at, .int t_fault, .ref a_t_comes, .ref a_t_begins, .ref a_t_latest, .int t_back, .int t_waits, .int t_miles, .int t_loads, .int t_bestRound, .int t_bestPlace, .int t_bestAdds, .int t_regret, .ref a_t_move, .ref a_t_sort, .ref a_t_items, .ref a_t_cell, .ref a_t_carried, .int t_z]), (a_t_s, aI G 258 t_s), (a_t_comes, aI G 16 t_comes), (a_t_begins, aI G 16 t_begins)]
theorem u_X8_adds_X8_isStop_151 {s : State} {args : Array Value} (hts : ∀ w ∈ WU, w.before args s = true) : CallW rm_X8_adds s args RX8 RX8 151 yX8_isStop cX8_isStop 2 (some .boolean) (kw_X8_isStop :: WU) rm_X8_isStop 0 0 1 := cwV 1 hts (gV qm_8_151 qi_X8_isStop ql_X8_isStop qn_8 qc_X8_isStop) rfl rfl rfl (by decide +kernel) ⟨Nat.le_of_ble_eq_true rfl, Nat.le_of_ble_eq_true rfl⟩
theorem u_X8_adds_X8_isRound_162 {s : State} {args : Array Value} (hts : ∀ w ∈ WU, w.before args s = true) : CallB rm_X8_adds s args RX8 162 yX8_isRound cX8_isRound 1 (some .boolean) (kw_X8_isRound :: WU) rm_X8_isRound 0 0 1 ∧ (Cond.static yX8_isRound).before args s = true := va_cwS 1 hts (gS qm_8_162 qs_X8_isRound qn_8 qc_X8_isRound) rfl rfl rfl (by decide +kernel) ⟨Nat.le_of_ble_eq_true rfl, Nat.le_of_ble_eq_true rfl⟩
theorem u_X8_adds_X8_roundOf_157 {s : State} {args : Array Value} (hts : ∀ w ∈ WU, w.before args s = true) : CallW rm_X8_adds s args RX8 RX8 157 yX8_roundOf cX8_roundOf 3 (some .int) (kw_X8_roundOf :: WU) rm_X8_roundOf 0 0 1 := cwV 1 hts (gV qm_8_157 qi_X8_roundOf ql_X8_roundOf qn_8 qc_X8_roundOf) rfl rfl rfl (by decide +kernel) ⟨Nat.le_of_ble_eq_true rfl, Nat.le_of_ble_eq_true rfl⟩
theorem u_X8_adds_X8_roundAt_59 {s : State} {args : Array Value} (hts : ∀ w ∈ WU, w.before args s = true) : CallW rm_X8_adds s args RX8 RX8 59 yX8_roundAt cX8_roundAt 3 (some .int) (kw_X8_roundAt :: WU) rm_X8_roundAt 0 0 2 := cwV 2 hts (gV qm_8_59 qi_X8_roundAt ql_X8_roundAt qn_8 qc_X8_roundAt) rfl rfl rfl (by decide +kernel) ⟨Nat.le_of_ble_eq_true rfl, Nat.le_of_ble_eq_true rfl⟩
theorem u_X8_adds_X8_isIn_55 {s : State} {args : Array Value} (hts : ∀ w ∈ WU, w.before args s = true) : CallB rm_X8_adds s args RX8 55 yX8_isIn cX8_isIn 3 (some .boolean) (kw_X8_isIn :: WU) rm_X8_isIn 0 0 3 ∧ (Cond.static yX8_isIn).before args s = true := va_cwS 3 hts (gS qm_8_55 qs_X8_isIn qn_8 qc_X8_isIn) rfl rfl rfl (by decide +kernel) ⟨Nat.le_of_ble_eq_true rfl, Nat.le_of_ble_eq_true rfl⟩
theorem u_X8_adds_X8_added_174 {s : State} {args : Array Value} (hts : ∀ w ∈ WU, w.before args s = true) : CallW rm_X8_adds s args RX8 RX8 174 yX8_added cX8_added 6 (some .int) (kw_X8_added :: WU) rm_X8_added 0 0 3 := cwV 3 hts (gV qm_8_174 qi_X8_added ql_X8_added qn_8 qc_X8_added) rfl rfl rfl (by decide +kernel) ⟨Nat.le_of_ble_eq_true rfl, Nat.le_of_ble_eq_true rfl⟩
section
variable {p : Program} {l : Launch} {e : Env} {s : State} {m : MethodId} {args : Array Value} {below : List Frame} {meth : Method} {c : Code} {A : Nat → Prop} {G : GE} {a_t a_t_s a_t_image a_t_mind a_t_aside a_t_text a_t_read a_t_comes a_t_begins a_t_latest a_t_move a_t_sort a_t_items a_t_cell a_t_carried : Nat} {r : Int32} {z_t_s : Nat → Int32} {z_t_comes : Nat → Int32} {z_t_begins : Nat → Int32} {z_t_back : Int32} {z_t_waits : Int32} {z_t_loads : Int32}
set_option maxRecDepth 100000 in
set_option maxHeartbeats 4000000 in
theorem c_X8_adds (l : Launch) (G : GE) (a_t a_t_s a_t_image a_t_mind a_t_aside a_t_text a_t_read a_t_comes a_t_begins a_t_latest a_t_move a_t_sort a_t_items a_t_cell a_t_carried : Nat) (t_isKept : Int32) (t_work : Int32) (t_kind : Int32) (t_letters : Int32) (t_at : Int32) (t_fault : Int32) (t_back : Int32) (t_waits : Int32) (t_miles : Int32) (t_loads : Int32) (t_bestRound : Int32) (t_bestPlace : Int32) (t_bestAdds : Int32) (t_regret : Int32) (t_z : Int32) (t_s : Nat → Int32) (t_comes : Nat → Int32) (t_begins : Nat → Int32) (x1 : Int32) (x2 : Int32) (x3 : Int32) (r : Int32) (z_t_s : Nat → Int32) (z_t_comes : Nat → Int32) (z_t_begins : Nat → Int32) (z_t_back : Int32) (z_t_waits : Int32) (z_t_loads : Int32) (hf : f_X8_adds t_s t_comes t_begins t_back t_waits t_loads x1 x2 x3 = some (r, z_t_s, z_t_comes, z_t_begins, z_t_back, z_t_waits, z_t_loads)) : CI l G yX8_adds kw_X8_adds rm_X8_adds [.ref a_t, .int x1, .int x2, .int x3] (w_X8_adds G a_t a_t_s a_t_image a_t_mind a_t_aside a_t_text a_t_read a_t_comes a_t_begins a_t_latest a_t_move a_t_sort a_t_items a_t_cell a_t_carried t_isKept t_work t_kind t_letters t_at t_fault t_back t_waits t_miles t_loads t_bestRound t_bestPlace t_bestAdds t_regret t_z t_s t_comes t_begins) r (w_X8_adds G a_t a_t_s a_t_image a_t_mind a_t_aside a_t_text a_t_read a_t_comes a_t_begins a_t_latest a_t_move a_t_sort a_t_items a_t_cell a_t_carried t_isKept t_work t_kind t_letters t_at t_fault z_t_back z_t_waits t_miles z_t_loads t_bestRound t_bestPlace t_bestAdds t_regret t_z z_t_s z_t_comes z_t_begins) := by
  refine en_I (cc := cX8_adds) (maxL := 5) (ret := (some .int)) (by decide +kernel) (Nat.le_of_ble_eq_true rfl) ?_
  intro p e s m args below meth c A ls C S hl
  have hl : lv_has ls 5 [(0, .ref a_t), (1, .int x1), (2, .int x2), (3, .int x3)] := hl
  have C : Cx p s m args meth c cX8_adds (some .int) 5 RX8 G A := C
  unfold f_X8_adds at hf
  have hx := C.1
  have hb := C.2.1
  have hown := C.2.2.2.2.1
  have hts := C.2.2.2.2.2.1
  have hN := C.2.2.2.2.2.2.2.2.2.2
  refine lv_aload_n (pc := 0) hx hb dX8_adds_0 rfl (lv_at hl 0 rfl) ?_
  refine lv_iload_n (pc := 1) hx hb dX8_adds_1 rfl (lv_at hl 1 rfl) ?_
  obtain ⟨r1, hq1, hf⟩ := bd_e hf
  refine x_vI (pc := 2) (As := [.int x1]) (rest := []) (isC := [0, 1]) (ws' := (w_X8_adds G a_t a_t_s a_t_image a_t_mind a_t_aside a_t_text a_t_read a_t_comes a_t_begins a_t_latest a_t_move a_t_sort a_t_items a_t_cell a_t_carried t_isKept t_work t_kind t_letters t_at t_fault t_back t_waits t_miles t_loads t_bestRound t_bestPlace t_bestAdds t_regret t_z t_s t_comes t_begins)) C S (c_X8_isStop l G a_t a_t_s a_t_image a_t_mind a_t_aside a_t_text a_t_read a_t_comes a_t_begins a_t_latest a_t_move a_t_sort a_t_items a_t_cell a_t_carried t_isKept t_work t_kind t_letters t_at t_fault t_back t_waits t_miles t_loads t_bestRound t_bestPlace t_bestAdds t_regret t_z t_s x1 r1 hq1) (u_X8_adds_X8_isStop_151 hts) (ci := 8) rfl 0 rfl rfl (by decide +kernel) [some 0, some 1, none, none] (by decide +kernel) rfl rfl rfl hl.1 rfl (Nat.le_of_ble_eq_true rfl) dX8_adds_2 (fun H locs S => ?_)
  refine lv_if_eq (tgt := 15) (pc := 5) hx hb dX8_adds_5 (by decide) (fun c2 => ?_) (fun c2 => ?_)
  · have hf := ifp c2 hf
    refine lv_iconst (pc := 15) hx hb dX8_adds_15 ic_m1 ?_
    cases hf
    exact x_iret (pc := 16) C S dX8_adds_16
  · have hf := ifn c2 hf
    refine lv_iload_n (pc := 8) hx hb dX8_adds_8 rfl (lv_at hl 2 rfl) ?_
    obtain ⟨r3, hq3, hf⟩ := bd_e hf
    refine x_sI (pc := 9) (As := [.int x2]) (rest := []) (isC := []) (ws' := (w_X8_adds G a_t a_t_s a_t_image a_t_mind a_t_aside a_t_text a_t_read a_t_comes a_t_begins a_t_latest a_t_move a_t_sort a_t_items a_t_cell a_t_carried t_isKept t_work t_kind t_letters t_at t_fault t_back t_waits t_miles t_loads t_bestRound t_bestPlace t_bestAdds t_regret t_z t_s t_comes t_begins)) C S (c_X8_isRound l G x2 r3 hq3) (u_X8_adds_X8_isRound_162 hts) rfl (by decide +kernel) [none, none, none, none] (by decide +kernel) rfl rfl rfl hl.1 rfl (Nat.le_of_ble_eq_true rfl) dX8_adds_9 (fun H locs S => ?_)
    refine lv_if_ne (tgt := 17) (pc := 12) hx hb dX8_adds_12 (by decide) (fun c4 => ?_) (fun c4 => ?_)
    · have hf := ifn c4 hf
      refine lv_aload_n (pc := 17) hx hb dX8_adds_17 rfl (lv_at hl 0 rfl) ?_
      refine lv_iload_n (pc := 18) hx hb dX8_adds_18 rfl (lv_at hl 1 rfl) ?_
      obtain ⟨r5, hq5, hf⟩ := bd_e hf
      refine x_vI (pc := 19) (As := [.int x1]) (rest := []) (isC := [0, 1]) (ws' := (w_X8_adds G a_t a_t_s a_t_image a_t_mind a_t_aside a_t_text a_t_read a_t_comes a_t_begins a_t_latest a_t_move a_t_sort a_t_items a_t_cell a_t_carried t_isKept t_work t_kind t_letters t_at t_fault t_back t_waits t_miles t_loads t_bestRound t_bestPlace t_bestAdds t_regret t_z t_s t_comes t_begins)) C S (c_X8_roundOf l G a_t a_t_s a_t_image a_t_mind a_t_aside a_t_text a_t_read a_t_comes a_t_begins a_t_latest a_t_move a_t_sort a_t_items a_t_cell a_t_carried t_isKept t_work t_kind t_letters t_at t_fault t_back t_waits t_miles t_loads t_bestRound t_bestPlace t_bestAdds t_regret t_z t_s x1 r5 hq5) (u_X8_adds_X8_roundOf_157 hts) (ci := 8) rfl 0 rfl rfl (by decide +kernel) [some 0, some 1, none, none] (by decide +kernel) rfl rfl rfl hl.1 rfl (Nat.le_of_ble_eq_true rfl) dX8_adds_19 (fun H locs S => ?_)
      refine lv_if_lt (tgt := 28) (pc := 22) hx hb dX8_adds_22 (by decide) (fun c6 => ?_) (fun c6 => ?_)
      · have hf := ifp c6 hf
        refine lv_iload_n (pc := 28) hx hb dX8_adds_28 rfl (lv_at hl 3 rfl) ?_
        refine lv_iconst (pc := 29) hx hb dX8_adds_29 ic_0 ?_
        refine lv_aload_n (pc := 30) hx hb dX8_adds_30 rfl (lv_at hl 0 rfl) ?_
        refine lv_iload_n (pc := 31) hx hb dX8_adds_31 rfl (lv_at hl 2 rfl) ?_
        refine lv_iconst (pc := 32) hx hb dX8_adds_32 ic_3 ?_
        obtain ⟨r7, hq7, hf⟩ := bd_e hf
        refine x_vI (pc := 33) (As := [.int x2, .int (3 : Int32)]) (rest := [.int (0 : Int32), .int x3]) (isC := [0, 1]) (ws' := (w_X8_adds G a_t a_t_s a_t_image a_t_mind a_t_aside a_t_text a_t_read a_t_comes a_t_begins a_t_latest a_t_move a_t_sort a_t_items a_t_cell a_t_carried t_isKept t_work t_kind t_letters t_at t_fault t_back t_waits t_miles t_loads t_bestRound t_bestPlace t_bestAdds t_regret t_z t_s t_comes t_begins)) C S (c_X8_roundAt l G a_t a_t_s a_t_image a_t_mind a_t_aside a_t_text a_t_read a_t_comes a_t_begins a_t_latest a_t_move a_t_sort a_t_items a_t_cell a_t_carried t_isKept t_work t_kind t_letters t_at t_fault t_back t_waits t_miles t_loads t_bestRound t_bestPlace t_bestAdds t_regret t_z t_s x2 (3 : Int32) r7 hq7) (u_X8_adds_X8_roundAt_59 hts) (ci := 8) rfl 0 rfl rfl (by decide +kernel) [some 0, some 1, none, none] (by decide +kernel) rfl rfl rfl hl.1 rfl (Nat.le_of_ble_eq_true rfl) dX8_adds_33 (fun H locs S => ?_)
        obtain ⟨r8, hq8, hf⟩ := bd_e hf
        refine x_sI (pc := 36) (As := [.int x3, .int (0 : Int32), .int r7]) (rest := []) (isC := []) (ws' := (w_X8_adds G a_t a_t_s a_t_image a_t_mind a_t_aside a_t_text a_t_read a_t_comes a_t_begins a_t_latest a_t_move a_t_sort a_t_items a_t_cell a_t_carried t_isKept t_work t_kind t_letters t_at t_fault t_back t_waits t_miles t_loads t_bestRound t_bestPlace t_bestAdds t_regret t_z t_s t_comes t_begins)) C S (c_X8_isIn l G x3 (0 : Int32) r7 r8 hq8) (u_X8_adds_X8_isIn_55 hts) rfl (by decide +kernel) [none, none, none, none] (by decide +kernel) rfl rfl rfl hl.1 rfl (Nat.le_of_ble_eq_true rfl) dX8_adds_36 (fun H locs S => ?_)
        refine lv_if_ne (tgt := 45) (pc := 39) hx hb dX8_adds_39 (by decide) (fun c9 => ?_) (fun c9 => ?_)
        · have hf := ifn c9 hf
          refine lv_aload_n (pc := 45) hx hb dX8_adds_45 rfl (lv_at hl 0 rfl) ?_
          refine lv_iload_n (pc := 46) hx hb dX8_adds_46 rfl (lv_at hl 1 rfl) ?_
          refine lv_iload_n (pc := 47) hx hb dX8_adds_47 rfl (lv_at hl 2 rfl) ?_
          refine lv_iload_n (pc := 48) hx hb dX8_adds_48 rfl (lv_at hl 3 rfl) ?_
          obtain ⟨⟨r10, o10_t_s, o10_t_comes, o10_t_begins, o10_t_back, o10_t_waits, o10_t_loads⟩, hq10, hf⟩ := bd_e hf
          refine x_vI (pc := 49) (As := [.int x1, .int x2, .int x3]) (rest := []) (isC := [0, 1, 2, 3]) (ws' := (w_X8_adds G a_t a_t_s a_t_image a_t_mind a_t_aside a_t_text a_t_read a_t_comes a_t_begins a_t_latest a_t_move a_t_sort a_t_items a_t_cell a_t_carried t_isKept t_work t_kind t_letters t_at t_fault o10_t_back o10_t_waits t_miles o10_t_loads t_bestRound t_bestPlace t_bestAdds t_regret t_z o10_t_s o10_t_comes o10_t_begins)) C S (c_X8_added l G a_t a_t_s a_t_image a_t_mind a_t_aside a_t_text a_t_read a_t_comes a_t_begins a_t_latest a_t_move a_t_sort a_t_items a_t_cell a_t_carried t_isKept t_work t_kind t_letters t_at t_fault t_back t_waits t_miles t_loads t_bestRound t_bestPlace t_bestAdds t_regret t_z t_s t_comes t_begins x1 x2 x3 r10 o10_t_s o10_t_comes o10_t_begins o10_t_back o10_t_waits o10_t_loads hq10) (u_X8_adds_X8_added_174 hts) (ci := 8) rfl 0 rfl rfl (by decide +kernel) [some 0, some 1, some 2, some 3] (by decide +kernel) rfl rfl rfl hl.1 rfl (Nat.le_of_ble_eq_true rfl) dX8_adds_49 (fun H locs S => ?_)
          refine lv_istore (pc := 52) (lv' := [(4, .int r10), (0, .ref a_t), (1, .int x1), (2, .int x2), (3, .int x3)]) hx hb dX8_adds_52 hl (by decide) rfl (fun ls hl => ?_)
          refine lv_iload (pc := 54) hx hb dX8_adds_54 (lv_at hl 0 rfl) ?_
          refine lv_ldc (pc := 56) hx hb hown (hts _ qk_8_169) dX8_adds_56 ?_
          refine lv_icmp_ne (tgt := 66) (pc := 58) hx hb dX8_adds_58 (by decide) (fun c11 => ?_) (fun c11 => ?_)
          · have hf := ifn c11 hf
            refine lv_iload (pc := 66) hx hb dX8_adds_66 (lv_at hl 0 rfl) ?_
            cases hf
            exact x_iret (pc := 68) C S dX8_adds_68
          · have hf := ifp c11 hf
            refine lv_bipush (pc := 61) hx hb dX8_adds_61 bc_m5 ?_
            refine lv_goto (tgt := 68) (pc := 63) hx hb dX8_adds_63 (by decide) ?_
            cases hf
            exact x_iret (pc := 68) C S dX8_adds_68
        · have hf := ifp c9 hf
          refine lv_bipush (pc := 42) hx hb dX8_adds_42 bc_m2 ?_
          cases hf
          exact x_iret (pc := 44) C S dX8_adds_44
      · have hf := ifn c6 hf
        refine lv_bipush (pc := 25) hx hb dX8_adds_25 bc_m3 ?_
        cases hf
        exact x_iret (pc := 27) C S dX8_adds_27
    · have hf := ifp c4 hf
      refine lv_iconst (pc := 15) hx hb dX8_adds_15 ic_m1 ?_
      cases hf
      exact x_iret (pc := 16) C S dX8_adds_16
end

abbrev rm_X8_allHold : Room := { frames := 5, cells := 0, slots := 0, locals := 120 }
abbrev kw_X8_allHold : Cond := .code yX8_allHold cX8_allHold 2 (some .boolean)
abbrev w_X8_allHold (G : GE) (a_t a_t_s a_t_image a_t_mind a_t_aside a_t_text a_t_read a_t_comes a_t_begins a_t_latest a_t_move a_t_sort a_t_items a_t_cell a_t_carried : Nat) (t_isKept : Int32) (t_work : Int32) (t_kind : Int32) (t_letters : Int32) (t_at : Int32) (t_fault : Int32) (t_back : Int32) (t_waits : Int32) (t_miles : Int32) (t_loads : Int32) (t_bestRound : Int32) (t_bestPlace : Int32) (t_bestAdds : Int32) (t_regret : Int32) (t_z : Int32) (t_s : Nat → Int32) (t_comes : Nat → Int32) (t_begins : Nat → Int32) : va_W := [(a_t, ob 8 [.ref a_t_s, .ref a_t_image, .ref a_t_mind, .ref a_t_aside, .int t_isKept, .int t_work, .int t_kind, .ref a_t_text, .ref a_t_read, .int t_letters, .int t_at, .int t_fault, .ref a_t_comes, .ref a_t_begins, .ref a_t_latest, .int t_back, .int t_waits, .int t_miles, .int t_loads, .int t_bestRound, .int t_bestPlace, .int t_bestAdds, .int t_regret, .ref a_t_move, .ref a_t_sort, .ref a_t_items, .ref a_t_cell, .ref a_t_carried, .int t_z]), (a_t_s, aI G 258 t_s), (a_t_comes, aI G 16 t_comes), (a_t_begins, aI G 16 t_begins)]
theorem u_X8_allHold_X8_holds_104 {s : State} {args : Array Value} (hts : ∀ w ∈ WU, w.before args s = true) : CallW rm_X8_allHold s args RX8 RX8 104 yX8_holds cX8_holds 2 (some .boolean) (kw_X8_holds :: WU) rm_X8_holds 0 0 1 := cwV 1 hts (gV qm_8_104 qi_X8_holds ql_X8_holds qn_8 qc_X8_holds) rfl rfl rfl (by decide +kernel) ⟨Nat.le_of_ble_eq_true rfl, Nat.le_of_ble_eq_true rfl⟩
section
variable {p : Program} {l : Launch} {e : Env} {s : State} {m : MethodId} {args : Array Value} {below : List Frame} {meth : Method} {c : Code} {A : Nat → Prop} {G : GE} {a_t a_t_s a_t_image a_t_mind a_t_aside a_t_text a_t_read a_t_comes a_t_begins a_t_latest a_t_move a_t_sort a_t_items a_t_cell a_t_carried : Nat} {r : Int32} {z_t_comes : Nat → Int32} {z_t_begins : Nat → Int32} {z_t_back : Int32} {z_t_waits : Int32} {z_t_loads : Int32}
set_option maxRecDepth 100000 in
set_option maxHeartbeats 4000000 in
theorem k_X8_allHold_2 (C : Cx p s m args meth c cX8_allHold (some .boolean) 2 RX8 G A) (t_isKept : Int32) (t_work : Int32) (t_kind : Int32) (t_letters : Int32) (t_at : Int32) (t_fault : Int32) (t_back : Int32) (t_waits : Int32) (t_miles : Int32) (t_loads : Int32) (t_bestRound : Int32) (t_bestPlace : Int32) (t_bestAdds : Int32) (t_regret : Int32) (t_z : Int32) (t_s : Nat → Int32) (t_comes : Nat → Int32) (t_begins : Nat → Int32) (x1 : Int32) (k2 : Int32 × (Nat → Int32) × (Nat → Int32) × Int32 × Int32 × Int32 → Option (Int32 × (Nat → Int32) × (Nat → Int32) × Int32 × Int32 × Int32)) (hk2 : ∀ {H : Heap} {locs : List Loc} {ls : Array Slot} (x1' : Int32) (t_comes' : Nat → Int32) (t_begins' : Nat → Int32) (t_back' : Int32) (t_waits' : Int32) (t_loads' : Int32), k2 (x1', t_comes', t_begins', t_back', t_waits', t_loads') = some (r, z_t_comes, z_t_begins, z_t_back, z_t_waits, z_t_loads) → St G A s.heap H locs (w_X8_allHold G a_t a_t_s a_t_image a_t_mind a_t_aside a_t_text a_t_read a_t_comes a_t_begins a_t_latest a_t_move a_t_sort a_t_items a_t_cell a_t_carried t_isKept t_work t_kind t_letters t_at t_fault t_back' t_waits' t_miles t_loads' t_bestRound t_bestPlace t_bestAdds t_regret t_z t_s t_comes' t_begins') → lv_has ls 2 [(0, .ref a_t), (1, .int x1')] → W p l e rm_X8_allHold s m args below meth c H locs 0 0 (QI G below args s A r (w_X8_allHold G a_t a_t_s a_t_image a_t_mind a_t_aside a_t_text a_t_read a_t_comes a_t_begins a_t_latest a_t_move a_t_sort a_t_items a_t_cell a_t_carried t_isKept t_work t_kind t_letters t_at t_fault z_t_back z_t_waits t_miles z_t_loads t_bestRound t_bestPlace t_bestAdds t_regret t_z t_s z_t_comes z_t_begins)) (F0 m 2 ls [])) {H : Heap} {locs : List Loc} {ls : Array Slot} (hf : b_X8_allHold_2 t_s k2 x1 t_comes t_begins t_back t_waits t_loads = some (r, z_t_comes, z_t_begins, z_t_back, z_t_waits, z_t_loads)) (S : St G A s.heap H locs (w_X8_allHold G a_t a_t_s a_t_image a_t_mind a_t_aside a_t_text a_t_read a_t_comes a_t_begins a_t_latest a_t_move a_t_sort a_t_items a_t_cell a_t_carried t_isKept t_work t_kind t_letters t_at t_fault t_back t_waits t_miles t_loads t_bestRound t_bestPlace t_bestAdds t_regret t_z t_s t_comes t_begins)) (hl : lv_has ls 2 [(0, .ref a_t), (1, .int x1)]) : W p l e rm_X8_allHold s m args below meth c H locs 0 0 (QI G below args s A r (w_X8_allHold G a_t a_t_s a_t_image a_t_mind a_t_aside a_t_text a_t_read a_t_comes a_t_begins a_t_latest a_t_move a_t_sort a_t_items a_t_cell a_t_carried t_isKept t_work t_kind t_letters t_at t_fault z_t_back z_t_waits t_miles z_t_loads t_bestRound t_bestPlace t_bestAdds t_regret t_z t_s z_t_comes z_t_begins)) (F0 m 2 ls []) := by
  unfold b_X8_allHold_2 at hf
  have hx := C.1
  have hb := C.2.1
  have hown := C.2.2.2.2.1
  have hts := C.2.2.2.2.2.1
  have hN := C.2.2.2.2.2.2.2.2.2.2
  refine lv_iload_n (pc := 2) hx hb dX8_allHold_2 rfl (lv_at hl 1 rfl) ?_
  refine lv_iconst (pc := 3) hx hb dX8_allHold_3 ic_4 ?_
  refine lv_icmp_ge (tgt := 23) (pc := 4) hx hb dX8_allHold_4 (by decide) (fun c1 => ?_) (fun c1 => ?_)
  · have hf := ifp c1 hf
    refine lv_iconst (pc := 23) hx hb dX8_allHold_23 ic_1 ?_
    cases hf
    exact x_zret (pc := 24) (by decide) C S dX8_allHold_24
  · have hf := ifn c1 hf
    refine lv_aload_n (pc := 7) hx hb dX8_allHold_7 rfl (lv_at hl 0 rfl) ?_
    refine lv_iload_n (pc := 8) hx hb dX8_allHold_8 rfl (lv_at hl 1 rfl) ?_
    obtain ⟨⟨r2, o2_t_comes, o2_t_begins, o2_t_back, o2_t_waits, o2_t_loads⟩, hq2, hf⟩ := bd_e hf
    refine x_vI (pc := 9) (As := [.int x1]) (rest := []) (isC := [0, 1, 2, 3]) (ws' := (w_X8_allHold G a_t a_t_s a_t_image a_t_mind a_t_aside a_t_text a_t_read a_t_comes a_t_begins a_t_latest a_t_move a_t_sort a_t_items a_t_cell a_t_carried t_isKept t_work t_kind t_letters t_at t_fault o2_t_back o2_t_waits t_miles o2_t_loads t_bestRound t_bestPlace t_bestAdds t_regret t_z t_s o2_t_comes o2_t_begins)) C S (c_X8_holds l G a_t a_t_s a_t_image a_t_mind a_t_aside a_t_text a_t_read a_t_comes a_t_begins a_t_latest a_t_move a_t_sort a_t_items a_t_cell a_t_carried t_isKept t_work t_kind t_letters t_at t_fault t_back t_waits t_miles t_loads t_bestRound t_bestPlace t_bestAdds t_regret t_z t_s t_comes t_begins x1 r2 o2_t_comes o2_t_begins o2_t_back o2_t_waits o2_t_loads hq2) (u_X8_allHold_X8_holds_104 hts) (ci := 8) rfl 0 rfl rfl (by decide +kernel) [some 0, some 1, some 2, some 3] (by decide +kernel) rfl rfl rfl hl.1 rfl (Nat.le_of_ble_eq_true rfl) dX8_allHold_9 (fun H locs S => ?_)
    refine lv_if_ne (tgt := 17) (pc := 12) hx hb dX8_allHold_12 (by decide) (fun c3 => ?_) (fun c3 => ?_)
    · have hf := ifn c3 hf
      refine lv_iinc (pc := 17) (v := (x1 + (1 : Int32))) (lv' := [(1, .int (x1 + (1 : Int32))), (0, .ref a_t)]) hx hb dX8_allHold_17 hl (k := 1) rfl (congrArg (fun z => x1 + z) ic_1) (by decide) rfl (fun ls hl => ?_)
      refine lv_goto (tgt := 2) (pc := 20) hx hb dX8_allHold_20 (by decide) ?_
      exact hk2 ((x1 + (1 : Int32))) (o2_t_comes) (o2_t_begins) (o2_t_back) (o2_t_waits) (o2_t_loads)  hf S (lv_sub hl [1, 0] rfl)
    · have hf := ifp c3 hf
      refine lv_iconst (pc := 15) hx hb dX8_allHold_15 ic_0 ?_
      cases hf
      exact x_zret (pc := 16) (by decide) C S dX8_allHold_16
set_option maxRecDepth 100000 in
set_option maxHeartbeats 4000000 in
theorem h_X8_allHold_2 (C : Cx p s m args meth c cX8_allHold (some .boolean) 2 RX8 G A) (t_isKept : Int32) (t_work : Int32) (t_kind : Int32) (t_letters : Int32) (t_at : Int32) (t_fault : Int32) (t_miles : Int32) (t_bestRound : Int32) (t_bestPlace : Int32) (t_bestAdds : Int32) (t_regret : Int32) (t_z : Int32) (t_s : Nat → Int32) : ∀ (n : Nat) (x1 : Int32) (t_comes : Nat → Int32) (t_begins : Nat → Int32) (t_back : Int32) (t_waits : Int32) (t_loads : Int32) {H : Heap} {locs : List Loc} {ls : Array Slot} (hf : lp (fun k x => b_X8_allHold_2 t_s k x.1 x.2.1 x.2.2.1 x.2.2.2.1 x.2.2.2.2.1 x.2.2.2.2.2) n (x1, t_comes, t_begins, t_back, t_waits, t_loads) = some (r, z_t_comes, z_t_begins, z_t_back, z_t_waits, z_t_loads)) (S : St G A s.heap H locs (w_X8_allHold G a_t a_t_s a_t_image a_t_mind a_t_aside a_t_text a_t_read a_t_comes a_t_begins a_t_latest a_t_move a_t_sort a_t_items a_t_cell a_t_carried t_isKept t_work t_kind t_letters t_at t_fault t_back t_waits t_miles t_loads t_bestRound t_bestPlace t_bestAdds t_regret t_z t_s t_comes t_begins)) (hl : lv_has ls 2 [(0, .ref a_t), (1, .int x1)]), W p l e rm_X8_allHold s m args below meth c H locs 0 0 (QI G below args s A r (w_X8_allHold G a_t a_t_s a_t_image a_t_mind a_t_aside a_t_text a_t_read a_t_comes a_t_begins a_t_latest a_t_move a_t_sort a_t_items a_t_cell a_t_carried t_isKept t_work t_kind t_letters t_at t_fault z_t_back z_t_waits t_miles z_t_loads t_bestRound t_bestPlace t_bestAdds t_regret t_z t_s z_t_comes z_t_begins)) (F0 m 2 ls []) := by
  intro n
  induction n with
  | zero =>
    intro x1 t_comes t_begins t_back t_waits t_loads  H locs ls hf
    cases hf
  | succ n ih =>
    intro x1 t_comes t_begins t_back t_waits t_loads  H locs ls hf S hl
    have hf : b_X8_allHold_2 t_s (lp (fun k x => b_X8_allHold_2 t_s k x.1 x.2.1 x.2.2.1 x.2.2.2.1 x.2.2.2.2.1 x.2.2.2.2.2) n) x1 t_comes t_begins t_back t_waits t_loads = some (r, z_t_comes, z_t_begins, z_t_back, z_t_waits, z_t_loads) := hf
    exact k_X8_allHold_2 C t_isKept t_work t_kind t_letters t_at t_fault t_back t_waits t_miles t_loads t_bestRound t_bestPlace t_bestAdds t_regret t_z t_s t_comes t_begins x1  (lp (fun k x => b_X8_allHold_2 t_s k x.1 x.2.1 x.2.2.1 x.2.2.2.1 x.2.2.2.2.1 x.2.2.2.2.2) n) (fun x1' t_comes' t_begins' t_back' t_waits' t_loads'  h S hl => ih x1' t_comes' t_begins' t_back' t_waits' t_loads'  h S hl) hf S hl
set_option maxRecDepth 100000 in
set_option maxHeartbeats 4000000 in
theorem c_X8_allHold (l : Launch) (G : GE) (a_t a_t_s a_t_image a_t_mind a_t_aside a_t_text a_t_read a_t_comes a_t_begins a_t_latest a_t_move a_t_sort a_t_items a_t_cell a_t_carried : Nat) (t_isKept : Int32) (t_work : Int32) (t_kind : Int32) (t_letters : Int32) (t_at : Int32) (t_fault : Int32) (t_back : Int32) (t_waits : Int32) (t_miles : Int32) (t_loads : Int32) (t_bestRound : Int32) (t_bestPlace : Int32) (t_bestAdds : Int32) (t_regret : Int32) (t_z : Int32) (t_s : Nat → Int32) (t_comes : Nat → Int32) (t_begins : Nat → Int32) (r : Int32) (z_t_comes : Nat → Int32) (z_t_begins : Nat → Int32) (z_t_back : Int32) (z_t_waits : Int32) (z_t_loads : Int32) (hf : f_X8_allHold t_s t_comes t_begins t_back t_waits t_loads = some (r, z_t_comes, z_t_begins, z_t_back, z_t_waits, z_t_loads)) : CI l G yX8_allHold kw_X8_allHold rm_X8_allHold [.ref a_t] (w_X8_allHold G a_t a_t_s a_t_image a_t_mind a_t_aside a_t_text a_t_read a_t_comes a_t_begins a_t_latest a_t_move a_t_sort a_t_items a_t_cell a_t_carried t_isKept t_work t_kind t_letters t_at t_fault t_back t_waits t_miles t_loads t_bestRound t_bestPlace t_bestAdds t_regret t_z t_s t_comes t_begins) r (w_X8_allHold G a_t a_t_s a_t_image a_t_mind a_t_aside a_t_text a_t_read a_t_comes a_t_begins a_t_latest a_t_move a_t_sort a_t_items a_t_cell a_t_carried t_isKept t_work t_kind t_letters t_at t_fault z_t_back z_t_waits t_miles z_t_loads t_bestRound t_bestPlace t_bestAdds t_regret t_z t_s z_t_comes z_t_begins) := by
  refine en_I (cc := cX8_allHold) (maxL := 2) (ret := (some .boolean)) (by decide +kernel) (Nat.le_of_ble_eq_true rfl) ?_
  intro p e s m args below meth c A ls C S hl
  have hl : lv_has ls 2 [(0, .ref a_t)] := hl
  have C : Cx p s m args meth c cX8_allHold (some .boolean) 2 RX8 G A := C
  unfold f_X8_allHold at hf
  have hx := C.1
  have hb := C.2.1
  have hown := C.2.2.2.2.1
  have hts := C.2.2.2.2.2.1
  have hN := C.2.2.2.2.2.2.2.2.2.2
  refine lv_iconst (pc := 0) hx hb dX8_allHold_0 ic_0 ?_
  refine lv_istore_n (pc := 1) (lv' := [(1, .int (0 : Int32)), (0, .ref a_t)]) hx hb dX8_allHold_1 rfl hl (by decide) rfl (fun ls hl => ?_)
  exact h_X8_allHold_2 C (t_isKept) (t_work) (t_kind) (t_letters) (t_at) (t_fault) (t_miles) (t_bestRound) (t_bestPlace) (t_bestAdds) (t_regret) (t_z) (t_s) fu ((0 : Int32)) (t_comes) (t_begins) (t_back) (t_waits) (t_loads) hf S (lv_sub hl [1, 0] rfl)
end

abbrev rm_X8_allWaits : Room := { frames := 4, cells := 0, slots := 0, locals := 99 }
abbrev kw_X8_allWaits : Cond := .code yX8_allWaits cX8_allWaits 3 (some .int)
abbrev w_X8_allWaits (G : GE) (a_t a_t_s a_t_image a_t_mind a_t_aside a_t_text a_t_read a_t_comes a_t_begins a_t_latest a_t_move a_t_sort a_t_items a_t_cell a_t_carried : Nat) (t_isKept : Int32) (t_work : Int32) (t_kind : Int32) (t_letters : Int32) (t_at : Int32) (t_fault : Int32) (t_back : Int32) (t_waits : Int32) (t_miles : Int32) (t_loads : Int32) (t_bestRound : Int32) (t_bestPlace : Int32) (t_bestAdds : Int32) (t_regret : Int32) (t_z : Int32) (t_s : Nat → Int32) (t_comes : Nat → Int32) (t_begins : Nat → Int32) : va_W := [(a_t, ob 8 [.ref a_t_s, .ref a_t_image, .ref a_t_mind, .ref a_t_aside, .int t_isKept, .int t_work, .int t_kind, .ref a_t_text, .ref a_t_read, .int t_letters, .int t_at, .int t_fault, .ref a_t_comes, .ref a_t_begins, .ref a_t_latest, .int t_back, .int t_waits, .int t_miles, .int t_loads, .int t_bestRound, .int t_bestPlace, .int t_bestAdds, .int t_regret, .ref a_t_move, .ref a_t_sort, .ref a_t_items, .ref a_t_cell, .ref a_t_carried, .int t_z]), (a_t_s, aI G 258 t_s), (a_t_comes, aI G 16 t_comes), (a_t_begins, aI G 16 t_begins)]
theorem u_X8_allWaits_X8_lateBy_101 {s : State} {args : Array Value} (hts : ∀ w ∈ WU, w.before args s = true) : CallW rm_X8_allWaits s args RX8 RX8 101 yX8_lateBy cX8_lateBy 8 (some .int) (kw_X8_lateBy :: WU) rm_X8_lateBy 0 0 2 := cwV 2 hts (gV qm_8_101 qi_X8_lateBy ql_X8_lateBy qn_8 qc_X8_lateBy) rfl rfl rfl (by decide +kernel) ⟨Nat.le_of_ble_eq_true rfl, Nat.le_of_ble_eq_true rfl⟩
section
variable {p : Program} {l : Launch} {e : Env} {s : State} {m : MethodId} {args : Array Value} {below : List Frame} {meth : Method} {c : Code} {A : Nat → Prop} {G : GE} {a_t a_t_s a_t_image a_t_mind a_t_aside a_t_text a_t_read a_t_comes a_t_begins a_t_latest a_t_move a_t_sort a_t_items a_t_cell a_t_carried : Nat} {r : Int32} {z_t_comes : Nat → Int32} {z_t_begins : Nat → Int32} {z_t_back : Int32} {z_t_waits : Int32} {z_t_loads : Int32}
set_option maxRecDepth 100000 in
set_option maxHeartbeats 4000000 in
theorem k_X8_allWaits_4 (C : Cx p s m args meth c cX8_allWaits (some .int) 3 RX8 G A) (t_isKept : Int32) (t_work : Int32) (t_kind : Int32) (t_letters : Int32) (t_at : Int32) (t_fault : Int32) (t_back : Int32) (t_waits : Int32) (t_miles : Int32) (t_loads : Int32) (t_bestRound : Int32) (t_bestPlace : Int32) (t_bestAdds : Int32) (t_regret : Int32) (t_z : Int32) (t_s : Nat → Int32) (t_comes : Nat → Int32) (t_begins : Nat → Int32) (x1 : Int32) (x2 : Int32) (k4 : Int32 × Int32 × (Nat → Int32) × (Nat → Int32) × Int32 × Int32 × Int32 → Option (Int32 × (Nat → Int32) × (Nat → Int32) × Int32 × Int32 × Int32)) (hk4 : ∀ {H : Heap} {locs : List Loc} {ls : Array Slot} (x1' : Int32) (x2' : Int32) (t_comes' : Nat → Int32) (t_begins' : Nat → Int32) (t_back' : Int32) (t_waits' : Int32) (t_loads' : Int32), k4 (x1', x2', t_comes', t_begins', t_back', t_waits', t_loads') = some (r, z_t_comes, z_t_begins, z_t_back, z_t_waits, z_t_loads) → St G A s.heap H locs (w_X8_allWaits G a_t a_t_s a_t_image a_t_mind a_t_aside a_t_text a_t_read a_t_comes a_t_begins a_t_latest a_t_move a_t_sort a_t_items a_t_cell a_t_carried t_isKept t_work t_kind t_letters t_at t_fault t_back' t_waits' t_miles t_loads' t_bestRound t_bestPlace t_bestAdds t_regret t_z t_s t_comes' t_begins') → lv_has ls 3 [(0, .ref a_t), (1, .int x1'), (2, .int x2')] → W p l e rm_X8_allWaits s m args below meth c H locs 0 0 (QI G below args s A r (w_X8_allWaits G a_t a_t_s a_t_image a_t_mind a_t_aside a_t_text a_t_read a_t_comes a_t_begins a_t_latest a_t_move a_t_sort a_t_items a_t_cell a_t_carried t_isKept t_work t_kind t_letters t_at t_fault z_t_back z_t_waits t_miles z_t_loads t_bestRound t_bestPlace t_bestAdds t_regret t_z t_s z_t_comes z_t_begins)) (F0 m 4 ls [])) {H : Heap} {locs : List Loc} {ls : Array Slot} (hf : b_X8_allWaits_4 t_s k4 x1 x2 t_comes t_begins t_back t_waits t_loads = some (r, z_t_comes, z_t_begins, z_t_back, z_t_waits, z_t_loads)) (S : St G A s.heap H locs (w_X8_allWaits G a_t a_t_s a_t_image a_t_mind a_t_aside a_t_text a_t_read a_t_comes a_t_begins a_t_latest a_t_move a_t_sort a_t_items a_t_cell a_t_carried t_isKept t_work t_kind t_letters t_at t_fault t_back t_waits t_miles t_loads t_bestRound t_bestPlace t_bestAdds t_regret t_z t_s t_comes t_begins)) (hl : lv_has ls 3 [(0, .ref a_t), (1, .int x1), (2, .int x2)]) : W p l e rm_X8_allWaits s m args below meth c H locs 0 0 (QI G below args s A r (w_X8_allWaits G a_t a_t_s a_t_image a_t_mind a_t_aside a_t_text a_t_read a_t_comes a_t_begins a_t_latest a_t_move a_t_sort a_t_items a_t_cell a_t_carried t_isKept t_work t_kind t_letters t_at t_fault z_t_back z_t_waits t_miles z_t_loads t_bestRound t_bestPlace t_bestAdds t_regret t_z t_s z_t_comes z_t_begins)) (F0 m 4 ls []) := by
  unfold b_X8_allWaits_4 at hf
  have hx := C.1
  have hb := C.2.1
  have hown := C.2.2.2.2.1
  have hts := C.2.2.2.2.2.1
  have hN := C.2.2.2.2.2.2.2.2.2.2
  refine lv_iload_n (pc := 4) hx hb dX8_allWaits_4 rfl (lv_at hl 2 rfl) ?_
  refine lv_iconst (pc := 5) hx hb dX8_allWaits_5 ic_4 ?_
  refine lv_icmp_ge (tgt := 29) (pc := 6) hx hb dX8_allWaits_6 (by decide) (fun c1 => ?_) (fun c1 => ?_)
  · have hf := ifp c1 hf
    refine lv_iload_n (pc := 29) hx hb dX8_allWaits_29 rfl (lv_at hl 1 rfl) ?_
    cases hf
    exact x_iret (pc := 30) C S dX8_allWaits_30
  · have hf := ifn c1 hf
    refine lv_aload_n (pc := 9) hx hb dX8_allWaits_9 rfl (lv_at hl 0 rfl) ?_
    refine lv_iload_n (pc := 10) hx hb dX8_allWaits_10 rfl (lv_at hl 2 rfl) ?_
    refine lv_iconst (pc := 11) hx hb dX8_allWaits_11 ic_0 ?_
    obtain ⟨⟨r2, o2_t_comes, o2_t_begins, o2_t_back, o2_t_waits, o2_t_loads⟩, hq2, hf⟩ := bd_e hf
    refine x_vI (pc := 12) (As := [.int x2, .int (0 : Int32)]) (rest := []) (isC := [0, 1, 2, 3]) (ws' := (w_X8_allWaits G a_t a_t_s a_t_image a_t_mind a_t_aside a_t_text a_t_read a_t_comes a_t_begins a_t_latest a_t_move a_t_sort a_t_items a_t_cell a_t_carried t_isKept t_work t_kind t_letters t_at t_fault o2_t_back o2_t_waits t_miles o2_t_loads t_bestRound t_bestPlace t_bestAdds t_regret t_z t_s o2_t_comes o2_t_begins)) C S (c_X8_lateBy l G a_t a_t_s a_t_image a_t_mind a_t_aside a_t_text a_t_read a_t_comes a_t_begins a_t_latest a_t_move a_t_sort a_t_items a_t_cell a_t_carried t_isKept t_work t_kind t_letters t_at t_fault t_back t_waits t_miles t_loads t_bestRound t_bestPlace t_bestAdds t_regret t_z t_s t_comes t_begins x2 (0 : Int32) r2 o2_t_comes o2_t_begins o2_t_back o2_t_waits o2_t_loads hq2) (u_X8_allWaits_X8_lateBy_101 hts) (ci := 8) rfl 0 rfl rfl (by decide +kernel) [some 0, some 1, some 2, some 3] (by decide +kernel) rfl rfl rfl hl.1 rfl (Nat.le_of_ble_eq_true rfl) dX8_allWaits_12 (fun H locs S => ?_)
    refine lv_pop (pc := 15) hx hb dX8_allWaits_15 rfl ?_
    refine lv_iload_n (pc := 16) hx hb dX8_allWaits_16 rfl (lv_at hl 1 rfl) ?_
    refine lv_aload_n (pc := 17) hx hb dX8_allWaits_17 rfl (lv_at hl 0 rfl) ?_
    refine x_get (pc := 18) (ci := 8) (T := TX8) (v := .int o2_t_waits) C S 0 rfl rfl inlX8 16 (by decide) rfl qf_8_91 rfl dX8_allWaits_18 ?_
    refine lv_iadd (pc := 21) hx hb dX8_allWaits_21 ?_
    refine lv_istore_n (pc := 22) (lv' := [(1, .int (x1 + o2_t_waits)), (0, .ref a_t), (2, .int x2)]) hx hb dX8_allWaits_22 rfl hl (by decide) rfl (fun ls hl => ?_)
    refine lv_iinc (pc := 23) (v := (x2 + (1 : Int32))) (lv' := [(2, .int (x2 + (1 : Int32))), (1, .int (x1 + o2_t_waits)), (0, .ref a_t)]) hx hb dX8_allWaits_23 hl (k := 2) rfl (congrArg (fun z => x2 + z) ic_1) (by decide) rfl (fun ls hl => ?_)
    refine lv_goto (tgt := 4) (pc := 26) hx hb dX8_allWaits_26 (by decide) ?_
    exact hk4 ((x1 + o2_t_waits)) ((x2 + (1 : Int32))) (o2_t_comes) (o2_t_begins) (o2_t_back) (o2_t_waits) (o2_t_loads)  hf S (lv_sub hl [2, 1, 0] rfl)
set_option maxRecDepth 100000 in
set_option maxHeartbeats 4000000 in
theorem h_X8_allWaits_4 (C : Cx p s m args meth c cX8_allWaits (some .int) 3 RX8 G A) (t_isKept : Int32) (t_work : Int32) (t_kind : Int32) (t_letters : Int32) (t_at : Int32) (t_fault : Int32) (t_miles : Int32) (t_bestRound : Int32) (t_bestPlace : Int32) (t_bestAdds : Int32) (t_regret : Int32) (t_z : Int32) (t_s : Nat → Int32) : ∀ (n : Nat) (x1 : Int32) (x2 : Int32) (t_comes : Nat → Int32) (t_begins : Nat → Int32) (t_back : Int32) (t_waits : Int32) (t_loads : Int32) {H : Heap} {locs : List Loc} {ls : Array Slot} (hf : lp (fun k x => b_X8_allWaits_4 t_s k x.1 x.2.1 x.2.2.1 x.2.2.2.1 x.2.2.2.2.1 x.2.2.2.2.2.1 x.2.2.2.2.2.2) n (x1, x2, t_comes, t_begins, t_back, t_waits, t_loads) = some (r, z_t_comes, z_t_begins, z_t_back, z_t_waits, z_t_loads)) (S : St G A s.heap H locs (w_X8_allWaits G a_t a_t_s a_t_image a_t_mind a_t_aside a_t_text a_t_read a_t_comes a_t_begins a_t_latest a_t_move a_t_sort a_t_items a_t_cell a_t_carried t_isKept t_work t_kind t_letters t_at t_fault t_back t_waits t_miles t_loads t_bestRound t_bestPlace t_bestAdds t_regret t_z t_s t_comes t_begins)) (hl : lv_has ls 3 [(0, .ref a_t), (1, .int x1), (2, .int x2)]), W p l e rm_X8_allWaits s m args below meth c H locs 0 0 (QI G below args s A r (w_X8_allWaits G a_t a_t_s a_t_image a_t_mind a_t_aside a_t_text a_t_read a_t_comes a_t_begins a_t_latest a_t_move a_t_sort a_t_items a_t_cell a_t_carried t_isKept t_work t_kind t_letters t_at t_fault z_t_back z_t_waits t_miles z_t_loads t_bestRound t_bestPlace t_bestAdds t_regret t_z t_s z_t_comes z_t_begins)) (F0 m 4 ls []) := by
  intro n
  induction n with
  | zero =>
    intro x1 x2 t_comes t_begins t_back t_waits t_loads  H locs ls hf
    cases hf
  | succ n ih =>
    intro x1 x2 t_comes t_begins t_back t_waits t_loads  H locs ls hf S hl
    have hf : b_X8_allWaits_4 t_s (lp (fun k x => b_X8_allWaits_4 t_s k x.1 x.2.1 x.2.2.1 x.2.2.2.1 x.2.2.2.2.1 x.2.2.2.2.2.1 x.2.2.2.2.2.2) n) x1 x2 t_comes t_begins t_back t_waits t_loads = some (r, z_t_comes, z_t_begins, z_t_back, z_t_waits, z_t_loads) := hf
    exact k_X8_allWaits_4 C t_isKept t_work t_kind t_letters t_at t_fault t_back t_waits t_miles t_loads t_bestRound t_bestPlace t_bestAdds t_regret t_z t_s t_comes t_begins x1 x2  (lp (fun k x => b_X8_allWaits_4 t_s k x.1 x.2.1 x.2.2.1 x.2.2.2.1 x.2.2.2.2.1 x.2.2.2.2.2.1 x.2.2.2.2.2.2) n) (fun x1' x2' t_comes' t_begins' t_back' t_waits' t_loads'  h S hl => ih x1' x2' t_comes' t_begins' t_back' t_waits' t_loads'  h S hl) hf S hl
set_option maxRecDepth 100000 in
set_option maxHeartbeats 4000000 in
theorem c_X8_allWaits (l : Launch) (G : GE) (a_t a_t_s a_t_image a_t_mind a_t_aside a_t_text a_t_read a_t_comes a_t_begins a_t_latest a_t_move a_t_sort a_t_items a_t_cell a_t_carried : Nat) (t_isKept : Int32) (t_work : Int32) (t_kind : Int32) (t_letters : Int32) (t_at : Int32) (t_fault : Int32) (t_back : Int32) (t_waits : Int32) (t_miles : Int32) (t_loads : Int32) (t_bestRound : Int32) (t_bestPlace : Int32) (t_bestAdds : Int32) (t_regret : Int32) (t_z : Int32) (t_s : Nat → Int32) (t_comes : Nat → Int32) (t_begins : Nat → Int32) (r : Int32) (z_t_comes : Nat → Int32) (z_t_begins : Nat → Int32) (z_t_back : Int32) (z_t_waits : Int32) (z_t_loads : Int32) (hf : f_X8_allWaits t_s t_comes t_begins t_back t_waits t_loads = some (r, z_t_comes, z_t_begins, z_t_back, z_t_waits, z_t_loads)) : CI l G yX8_allWaits kw_X8_allWaits rm_X8_allWaits [.ref a_t] (w_X8_allWaits G a_t a_t_s a_t_image a_t_mind a_t_aside a_t_text a_t_read a_t_comes a_t_begins a_t_latest a_t_move a_t_sort a_t_items a_t_cell a_t_carried t_isKept t_work t_kind t_letters t_at t_fault t_back t_waits t_miles t_loads t_bestRound t_bestPlace t_bestAdds t_regret t_z t_s t_comes t_begins) r (w_X8_allWaits G a_t a_t_s a_t_image a_t_mind a_t_aside a_t_text a_t_read a_t_comes a_t_begins a_t_latest a_t_move a_t_sort a_t_items a_t_cell a_t_carried t_isKept t_work t_kind t_letters t_at t_fault z_t_back z_t_waits t_miles z_t_loads t_bestRound t_bestPlace t_bestAdds t_regret t_z t_s z_t_comes z_t_begins) := by
  refine en_I (cc := cX8_allWaits) (maxL := 3) (ret := (some .int)) (by decide +kernel) (Nat.le_of_ble_eq_true rfl) ?_
  intro p e s m args below meth c A ls C S hl
  have hl : lv_has ls 3 [(0, .ref a_t)] := hl
  have C : Cx p s m args meth c cX8_allWaits (some .int) 3 RX8 G A := C
  unfold f_X8_allWaits at hf
  have hx := C.1
  have hb := C.2.1
  have hown := C.2.2.2.2.1
  have hts := C.2.2.2.2.2.1
  have hN := C.2.2.2.2.2.2.2.2.2.2
  refine lv_iconst (pc := 0) hx hb dX8_allWaits_0 ic_0 ?_
  refine lv_istore_n (pc := 1) (lv' := [(1, .int (0 : Int32)), (0, .ref a_t)]) hx hb dX8_allWaits_1 rfl hl (by decide) rfl (fun ls hl => ?_)
  refine lv_iconst (pc := 2) hx hb dX8_allWaits_2 ic_0 ?_
  refine lv_istore_n (pc := 3) (lv' := [(2, .int (0 : Int32)), (1, .int (0 : Int32)), (0, .ref a_t)]) hx hb dX8_allWaits_3 rfl hl (by decide) rfl (fun ls hl => ?_)
  exact h_X8_allWaits_4 C (t_isKept) (t_work) (t_kind) (t_letters) (t_at) (t_fault) (t_miles) (t_bestRound) (t_bestPlace) (t_bestAdds) (t_regret) (t_z) (t_s) fu ((0 : Int32)) ((0 : Int32)) (t_comes) (t_begins) (t_back) (t_waits) (t_loads) hf S (lv_sub hl [2, 1, 0] rfl)
end

abbrev rm_X8_at : Room := { frames := 2, cells := 0, slots := 0, locals := 42 }
abbrev kw_X8_at : Cond := .code yX8_at cX8_at 3 (some .int)
abbrev w_X8_at (G : GE) (a_t a_t_s a_t_image a_t_mind a_t_aside a_t_text a_t_read a_t_comes a_t_begins a_t_latest a_t_move a_t_sort a_t_items a_t_cell a_t_carried : Nat) (t_isKept : Int32) (t_work : Int32) (t_kind : Int32) (t_letters : Int32) (t_at : Int32) (t_fault : Int32) (t_back : Int32) (t_waits : Int32) (t_miles : Int32) (t_loads : Int32) (t_bestRound : Int32) (t_bestPlace : Int32) (t_bestAdds : Int32) (t_regret : Int32) (t_z : Int32) (t_s : Nat → Int32) : va_W := [(a_t, ob 8 [.ref a_t_s, .ref a_t_image, .ref a_t_mind, .ref a_t_aside, .int t_isKept, .int t_work, .int t_kind, .ref a_t_text, .ref a_t_read, .int t_letters, .int t_at, .int t_fault, .ref a_t_comes, .ref a_t_begins, .ref a_t_latest, .int t_back, .int t_waits, .int t_miles, .int t_loads, .int t_bestRound, .int t_bestPlace, .int t_bestAdds, .int t_regret, .ref a_t_move, .ref a_t_sort, .ref a_t_items, .ref a_t_cell, .ref a_t_carried, .int t_z]), (a_t_s, aI G 258 t_s)]
theorem u_X8_at_X8_isRound_162 {s : State} {args : Array Value} (hts : ∀ w ∈ WU, w.before args s = true) : CallB rm_X8_at s args RX8 162 yX8_isRound cX8_isRound 1 (some .boolean) (kw_X8_isRound :: WU) rm_X8_isRound 0 0 1 ∧ (Cond.static yX8_isRound).before args s = true := va_cwS 1 hts (gS qm_8_162 qs_X8_isRound qn_8 qc_X8_isRound) rfl rfl rfl (by decide +kernel) ⟨Nat.le_of_ble_eq_true rfl, Nat.le_of_ble_eq_true rfl⟩
theorem u_X8_at_X8_roundAt_59 {s : State} {args : Array Value} (hts : ∀ w ∈ WU, w.before args s = true) : CallW rm_X8_at s args RX8 RX8 59 yX8_roundAt cX8_roundAt 3 (some .int) (kw_X8_roundAt :: WU) rm_X8_roundAt 0 0 2 := cwV 2 hts (gV qm_8_59 qi_X8_roundAt ql_X8_roundAt qn_8 qc_X8_roundAt) rfl rfl rfl (by decide +kernel) ⟨Nat.le_of_ble_eq_true rfl, Nat.le_of_ble_eq_true rfl⟩
theorem u_X8_at_X8_isIn_55 {s : State} {args : Array Value} (hts : ∀ w ∈ WU, w.before args s = true) : CallB rm_X8_at s args RX8 55 yX8_isIn cX8_isIn 3 (some .boolean) (kw_X8_isIn :: WU) rm_X8_isIn 0 0 3 ∧ (Cond.static yX8_isIn).before args s = true := va_cwS 3 hts (gS qm_8_55 qs_X8_isIn qn_8 qc_X8_isIn) rfl rfl rfl (by decide +kernel) ⟨Nat.le_of_ble_eq_true rfl, Nat.le_of_ble_eq_true rfl⟩
theorem u_X8_at_X8_inRow_63 {s : State} {args : Array Value} (hts : ∀ w ∈ WU, w.before args s = true) : CallW rm_X8_at s args RX8 RX8 63 yX8_inRow cX8_inRow 3 (some .int) (kw_X8_inRow :: WU) rm_X8_inRow 0 0 2 := cwV 2 hts (gV qm_8_63 qi_X8_inRow ql_X8_inRow qn_8 qc_X8_inRow) rfl rfl rfl (by decide +kernel) ⟨Nat.le_of_ble_eq_true rfl, Nat.le_of_ble_eq_true rfl⟩
section
variable {p : Program} {l : Launch} {e : Env} {s : State} {m : MethodId} {args : Array Value} {below : List Frame} {meth : Method} {c : Code} {A : Nat → Prop} {G : GE} {a_t a_t_s a_t_image a_t_mind a_t_aside a_t_text a_t_read a_t_comes a_t_begins a_t_latest a_t_move a_t_sort a_t_items a_t_cell a_t_carried : Nat} {r : Int32}
set_option maxRecDepth 100000 in
set_option maxHeartbeats 4000000 in
theorem c_X8_at (l : Launch) (G : GE) (a_t a_t_s a_t_image a_t_mind a_t_aside a_t_text a_t_read a_t_comes a_t_begins a_t_latest a_t_move a_t_sort a_t_items a_t_cell a_t_carried : Nat) (t_isKept : Int32) (t_work : Int32) (t_kind : Int32) (t_letters : Int32) (t_at : Int32) (t_fault : Int32) (t_back : Int32) (t_waits : Int32) (t_miles : Int32) (t_loads : Int32) (t_bestRound : Int32) (t_bestPlace : Int32) (t_bestAdds : Int32) (t_regret : Int32) (t_z : Int32) (t_s : Nat → Int32) (x1 : Int32) (x2 : Int32) (r : Int32) (hf : f_X8_at t_s x1 x2 = some r) : CI l G yX8_at kw_X8_at rm_X8_at [.ref a_t, .int x1, .int x2] (w_X8_at G a_t a_t_s a_t_image a_t_mind a_t_aside a_t_text a_t_read a_t_comes a_t_begins a_t_latest a_t_move a_t_sort a_t_items a_t_cell a_t_carried t_isKept t_work t_kind t_letters t_at t_fault t_back t_waits t_miles t_loads t_bestRound t_bestPlace t_bestAdds t_regret t_z t_s) r (w_X8_at G a_t a_t_s a_t_image a_t_mind a_t_aside a_t_text a_t_read a_t_comes a_t_begins a_t_latest a_t_move a_t_sort a_t_items a_t_cell a_t_carried t_isKept t_work t_kind t_letters t_at t_fault t_back t_waits t_miles t_loads t_bestRound t_bestPlace t_bestAdds t_regret t_z t_s) := by
  refine en_I (cc := cX8_at) (maxL := 3) (ret := (some .int)) (by decide +kernel) (Nat.le_of_ble_eq_true rfl) ?_
  intro p e s m args below meth c A ls C S hl
  have hl : lv_has ls 3 [(0, .ref a_t), (1, .int x1), (2, .int x2)] := hl
  have C : Cx p s m args meth c cX8_at (some .int) 3 RX8 G A := C
  unfold f_X8_at at hf
  have hx := C.1
  have hb := C.2.1
  have hown := C.2.2.2.2.1
  have hts := C.2.2.2.2.2.1
  have hN := C.2.2.2.2.2.2.2.2.2.2
  refine lv_iload_n (pc := 0) hx hb dX8_at_0 rfl (lv_at hl 1 rfl) ?_
  obtain ⟨r1, hq1, hf⟩ := bd_e hf
  refine x_sI (pc := 1) (As := [.int x1]) (rest := []) (isC := []) (ws' := (w_X8_at G a_t a_t_s a_t_image a_t_mind a_t_aside a_t_text a_t_read a_t_comes a_t_begins a_t_latest a_t_move a_t_sort a_t_items a_t_cell a_t_carried t_isKept t_work t_kind t_letters t_at t_fault t_back t_waits t_miles t_loads t_bestRound t_bestPlace t_bestAdds t_regret t_z t_s)) C S (c_X8_isRound l G x1 r1 hq1) (u_X8_at_X8_isRound_162 hts) rfl (by decide +kernel) [none, none] (by decide +kernel) rfl rfl rfl hl.1 rfl (Nat.le_of_ble_eq_true rfl) dX8_at_1 (fun H locs S => ?_)
  refine lv_if_ne (tgt := 9) (pc := 4) hx hb dX8_at_4 (by decide) (fun c2 => ?_) (fun c2 => ?_)
  · have hf := ifn c2 hf
    refine lv_iload_n (pc := 9) hx hb dX8_at_9 rfl (lv_at hl 2 rfl) ?_
    refine lv_iconst (pc := 10) hx hb dX8_at_10 ic_0 ?_
    refine lv_aload_n (pc := 11) hx hb dX8_at_11 rfl (lv_at hl 0 rfl) ?_
    refine lv_iload_n (pc := 12) hx hb dX8_at_12 rfl (lv_at hl 1 rfl) ?_
    refine lv_iconst (pc := 13) hx hb dX8_at_13 ic_3 ?_
    obtain ⟨r3, hq3, hf⟩ := bd_e hf
    refine x_vI (pc := 14) (As := [.int x1, .int (3 : Int32)]) (rest := [.int (0 : Int32), .int x2]) (isC := [0, 1]) (ws' := (w_X8_at G a_t a_t_s a_t_image a_t_mind a_t_aside a_t_text a_t_read a_t_comes a_t_begins a_t_latest a_t_move a_t_sort a_t_items a_t_cell a_t_carried t_isKept t_work t_kind t_letters t_at t_fault t_back t_waits t_miles t_loads t_bestRound t_bestPlace t_bestAdds t_regret t_z t_s)) C S (c_X8_roundAt l G a_t a_t_s a_t_image a_t_mind a_t_aside a_t_text a_t_read a_t_comes a_t_begins a_t_latest a_t_move a_t_sort a_t_items a_t_cell a_t_carried t_isKept t_work t_kind t_letters t_at t_fault t_back t_waits t_miles t_loads t_bestRound t_bestPlace t_bestAdds t_regret t_z t_s x1 (3 : Int32) r3 hq3) (u_X8_at_X8_roundAt_59 hts) (ci := 8) rfl 0 rfl rfl (by decide +kernel) [some 0, some 1] (by decide +kernel) rfl rfl rfl hl.1 rfl (Nat.le_of_ble_eq_true rfl) dX8_at_14 (fun H locs S => ?_)
    refine lv_iconst (pc := 17) hx hb dX8_at_17 ic_1 ?_
    refine lv_isub (pc := 18) hx hb dX8_at_18 ?_
    obtain ⟨r4, hq4, hf⟩ := bd_e hf
    refine x_sI (pc := 19) (As := [.int x2, .int (0 : Int32), .int (r3 - (1 : Int32))]) (rest := []) (isC := []) (ws' := (w_X8_at G a_t a_t_s a_t_image a_t_mind a_t_aside a_t_text a_t_read a_t_comes a_t_begins a_t_latest a_t_move a_t_sort a_t_items a_t_cell a_t_carried t_isKept t_work t_kind t_letters t_at t_fault t_back t_waits t_miles t_loads t_bestRound t_bestPlace t_bestAdds t_regret t_z t_s)) C S (c_X8_isIn l G x2 (0 : Int32) (r3 - (1 : Int32)) r4 hq4) (u_X8_at_X8_isIn_55 hts) rfl (by decide +kernel) [none, none] (by decide +kernel) rfl rfl rfl hl.1 rfl (Nat.le_of_ble_eq_true rfl) dX8_at_19 (fun H locs S => ?_)
    refine lv_if_eq (tgt := 34) (pc := 22) hx hb dX8_at_22 (by decide) (fun c5 => ?_) (fun c5 => ?_)
    · have hf := ifp c5 hf
      refine lv_bipush (pc := 34) hx hb dX8_at_34 bc_m2 ?_
      cases hf
      exact x_iret (pc := 36) C S dX8_at_36
    · have hf := ifn c5 hf
      refine lv_aload_n (pc := 25) hx hb dX8_at_25 rfl (lv_at hl 0 rfl) ?_
      refine lv_iload_n (pc := 26) hx hb dX8_at_26 rfl (lv_at hl 1 rfl) ?_
      refine lv_iload_n (pc := 27) hx hb dX8_at_27 rfl (lv_at hl 2 rfl) ?_
      obtain ⟨r6, hq6, hf⟩ := bd_e hf
      refine x_vI (pc := 28) (As := [.int x1, .int x2]) (rest := []) (isC := [0, 1]) (ws' := (w_X8_at G a_t a_t_s a_t_image a_t_mind a_t_aside a_t_text a_t_read a_t_comes a_t_begins a_t_latest a_t_move a_t_sort a_t_items a_t_cell a_t_carried t_isKept t_work t_kind t_letters t_at t_fault t_back t_waits t_miles t_loads t_bestRound t_bestPlace t_bestAdds t_regret t_z t_s)) C S (c_X8_inRow l G a_t a_t_s a_t_image a_t_mind a_t_aside a_t_text a_t_read a_t_comes a_t_begins a_t_latest a_t_move a_t_sort a_t_items a_t_cell a_t_carried t_isKept t_work t_kind t_letters t_at t_fault t_back t_waits t_miles t_loads t_bestRound t_bestPlace t_bestAdds t_regret t_z t_s x1 x2 r6 hq6) (u_X8_at_X8_inRow_63 hts) (ci := 8) rfl 0 rfl rfl (by decide +kernel) [some 0, some 1] (by decide +kernel) rfl rfl rfl hl.1 rfl (Nat.le_of_ble_eq_true rfl) dX8_at_28 (fun H locs S => ?_)
      refine lv_goto (tgt := 36) (pc := 31) hx hb dX8_at_31 (by decide) ?_
      cases hf
      exact x_iret (pc := 36) C S dX8_at_36
  · have hf := ifp c2 hf
    refine lv_iconst (pc := 7) hx hb dX8_at_7 ic_m1 ?_
    cases hf
    exact x_iret (pc := 8) C S dX8_at_8
end

abbrev rm_X8_becomes : Room := { frames := 6, cells := 0, slots := 0, locals := 141 }
abbrev kw_X8_becomes : Cond := .code yX8_becomes cX8_becomes 4 (some .int)
abbrev w_X8_becomes (G : GE) (a_t a_t_s a_t_image a_t_mind a_t_aside a_t_text a_t_read a_t_comes a_t_begins a_t_latest a_t_move a_t_sort a_t_items a_t_cell a_t_carried : Nat) (t_isKept : Int32) (t_work : Int32) (t_kind : Int32) (t_letters : Int32) (t_at : Int32) (t_fault : Int32) (t_back : Int32) (t_waits : Int32) (t_miles : Int32) (t_loads : Int32) (t_bestRound : Int32) (t_bestPlace : Int32) (t_bestAdds : Int32) (t_regret : Int32) (t_z : Int32) (t_s : Nat → Int32) (t_comes : Nat → Int32) (t_begins : Nat → Int32) : va_W := [(a_t, ob 8 [.ref a_t_s, .ref a_t_image, .ref a_t_mind, .ref a_t_aside, .int t_isKept, .int t_work, .int t_kind, .ref a_t_text, .ref a_t_read, .int t_letters, .int t_at, .int t_fault, .ref a_t_comes, .ref a_t_begins, .ref a_t_latest, .int t_back, .int t_waits, .int t_miles, .int t_loads, .int t_bestRound, .int t_bestPlace, .int t_bestAdds, .int t_regret, .ref a_t_move, .ref a_t_sort, .ref a_t_items, .ref a_t_cell, .ref a_t_carried, .int t_z]), (a_t_s, aI G 258 t_s), (a_t_comes, aI G 16 t_comes), (a_t_begins, aI G 16 t_begins)]
theorem u_X8_becomes_X8_allHold_147 {s : State} {args : Array Value} (hts : ∀ w ∈ WU, w.before args s = true) : CallW rm_X8_becomes s args RX8 RX8 147 yX8_allHold cX8_allHold 2 (some .boolean) (kw_X8_allHold :: WU) rm_X8_allHold 0 0 0 := cwV 0 hts (gV qm_8_147 qi_X8_allHold ql_X8_allHold qn_8 qc_X8_allHold) rfl rfl rfl (by decide +kernel) ⟨Nat.le_of_ble_eq_true rfl, Nat.le_of_ble_eq_true rfl⟩
section
variable {p : Program} {l : Launch} {e : Env} {s : State} {m : MethodId} {args : Array Value} {below : List Frame} {meth : Method} {c : Code} {A : Nat → Prop} {G : GE} {a_t a_t_s a_t_image a_t_mind a_t_aside a_t_text a_t_read a_t_comes a_t_begins a_t_latest a_t_move a_t_sort a_t_items a_t_cell a_t_carried : Nat} {r : Int32} {z_t_s : Nat → Int32} {z_t_comes : Nat → Int32} {z_t_begins : Nat → Int32} {z_t_back : Int32} {z_t_waits : Int32} {z_t_loads : Int32}
set_option maxRecDepth 100000 in
set_option maxHeartbeats 4000000 in
theorem c_X8_becomes (l : Launch) (G : GE) (a_t a_t_s a_t_image a_t_mind a_t_aside a_t_text a_t_read a_t_comes a_t_begins a_t_latest a_t_move a_t_sort a_t_items a_t_cell a_t_carried : Nat) (t_isKept : Int32) (t_work : Int32) (t_kind : Int32) (t_letters : Int32) (t_at : Int32) (t_fault : Int32) (t_back : Int32) (t_waits : Int32) (t_miles : Int32) (t_loads : Int32) (t_bestRound : Int32) (t_bestPlace : Int32) (t_bestAdds : Int32) (t_regret : Int32) (t_z : Int32) (t_s : Nat → Int32) (t_comes : Nat → Int32) (t_begins : Nat → Int32) (x1 : Int32) (x2 : Int32) (r : Int32) (z_t_s : Nat → Int32) (z_t_comes : Nat → Int32) (z_t_begins : Nat → Int32) (z_t_back : Int32) (z_t_waits : Int32) (z_t_loads : Int32) (hf : f_X8_becomes t_s t_comes t_begins t_back t_waits t_loads x1 x2 = some (r, z_t_s, z_t_comes, z_t_begins, z_t_back, z_t_waits, z_t_loads)) : CI l G yX8_becomes kw_X8_becomes rm_X8_becomes [.ref a_t, .int x1, .int x2] (w_X8_becomes G a_t a_t_s a_t_image a_t_mind a_t_aside a_t_text a_t_read a_t_comes a_t_begins a_t_latest a_t_move a_t_sort a_t_items a_t_cell a_t_carried t_isKept t_work t_kind t_letters t_at t_fault t_back t_waits t_miles t_loads t_bestRound t_bestPlace t_bestAdds t_regret t_z t_s t_comes t_begins) r (w_X8_becomes G a_t a_t_s a_t_image a_t_mind a_t_aside a_t_text a_t_read a_t_comes a_t_begins a_t_latest a_t_move a_t_sort a_t_items a_t_cell a_t_carried t_isKept t_work t_kind t_letters t_at t_fault z_t_back z_t_waits t_miles z_t_loads t_bestRound t_bestPlace t_bestAdds t_regret t_z z_t_s z_t_comes z_t_begins) := by
  refine en_I (cc := cX8_becomes) (maxL := 4) (ret := (some .int)) (by decide +kernel) (Nat.le_of_ble_eq_true rfl) ?_
  intro p e s m args below meth c A ls C S hl
  have hl : lv_has ls 4 [(0, .ref a_t), (1, .int x1), (2, .int x2)] := hl
  have C : Cx p s m args meth c cX8_becomes (some .int) 4 RX8 G A := C
  unfold f_X8_becomes at hf
  have hx := C.1
  have hb := C.2.1
  have hown := C.2.2.2.2.1
  have hts := C.2.2.2.2.2.1
  have hN := C.2.2.2.2.2.2.2.2.2.2
  refine lv_aload_n (pc := 0) hx hb dX8_becomes_0 rfl (lv_at hl 0 rfl) ?_
  refine x_get (pc := 1) (ci := 8) (T := TX8) (v := .ref a_t_s) C S 0 rfl rfl inlX8 0 (by decide) rfl qf_8_11 rfl dX8_becomes_1 ?_
  refine lv_iload_n (pc := 4) hx hb dX8_becomes_4 rfl (lv_at hl 1 rfl) ?_
  obtain ⟨hv1, hf⟩ := gI_e hf
  refine x_iald (pc := 5) C S 1 rfl hv1 dX8_becomes_5 ?_
  refine lv_istore_n (pc := 6) (lv' := [(3, .int (t_s x1.toNatClampNeg)), (0, .ref a_t), (1, .int x1), (2, .int x2)]) hx hb dX8_becomes_6 rfl hl (by decide) rfl (fun ls hl => ?_)
  refine lv_aload_n (pc := 7) hx hb dX8_becomes_7 rfl (lv_at hl 1 rfl) ?_
  refine x_get (pc := 8) (ci := 8) (T := TX8) (v := .ref a_t_s) C S 0 rfl rfl inlX8 0 (by decide) rfl qf_8_11 rfl dX8_becomes_8 ?_
  refine lv_iload_n (pc := 11) hx hb dX8_becomes_11 rfl (lv_at hl 2 rfl) ?_
  refine lv_iload_n (pc := 12) hx hb dX8_becomes_12 rfl (lv_at hl 3 rfl) ?_
  refine x_iast (pc := 13) (ws' := (w_X8_becomes G a_t a_t_s a_t_image a_t_mind a_t_aside a_t_text a_t_read a_t_comes a_t_begins a_t_latest a_t_move a_t_sort a_t_items a_t_cell a_t_carried t_isKept t_work t_kind t_letters t_at t_fault t_back t_waits t_miles t_loads t_bestRound t_bestPlace t_bestAdds t_regret t_z (upd t_s x1.toNatClampNeg x2) t_comes t_begins)) C S 1 rfl hv1 rfl dX8_becomes_13 (fun H locs S => ?_)
  refine lv_aload_n (pc := 14) hx hb dX8_becomes_14 rfl (lv_at hl 1 rfl) ?_
  obtain ⟨⟨r2, o2_t_comes, o2_t_begins, o2_t_back, o2_t_waits, o2_t_loads⟩, hq2, hf⟩ := bd_e hf
  refine x_vI (pc := 15) (As := []) (rest := []) (isC := [0, 1, 2, 3]) (ws' := (w_X8_becomes G a_t a_t_s a_t_image a_t_mind a_t_aside a_t_text a_t_read a_t_comes a_t_begins a_t_latest a_t_move a_t_sort a_t_items a_t_cell a_t_carried t_isKept t_work t_kind t_letters t_at t_fault o2_t_back o2_t_waits t_miles o2_t_loads t_bestRound t_bestPlace t_bestAdds t_regret t_z (upd t_s x1.toNatClampNeg x2) o2_t_comes o2_t_begins)) C S (c_X8_allHold l G a_t a_t_s a_t_image a_t_mind a_t_aside a_t_text a_t_read a_t_comes a_t_begins a_t_latest a_t_move a_t_sort a_t_items a_t_cell a_t_carried t_isKept t_work t_kind t_letters t_at t_fault t_back t_waits t_miles t_loads t_bestRound t_bestPlace t_bestAdds t_regret t_z (upd t_s x1.toNatClampNeg x2) t_comes t_begins r2 o2_t_comes o2_t_begins o2_t_back o2_t_waits o2_t_loads hq2) (u_X8_becomes_X8_allHold_147 hts) (ci := 8) rfl 0 rfl rfl (by decide +kernel) [some 0, some 1, some 2, some 3] (by decide +kernel) rfl rfl rfl hl.1 rfl (Nat.le_of_ble_eq_true rfl) dX8_becomes_15 (fun H locs S => ?_)
  refine lv_if_eq (tgt := 23) (pc := 18) hx hb dX8_becomes_18 (by decide) (fun c3 => ?_) (fun c3 => ?_)
  · have hf := ifp c3 hf
    refine lv_aload_n (pc := 23) hx hb dX8_becomes_23 rfl (lv_at hl 1 rfl) ?_
    refine x_get (pc := 24) (ci := 8) (T := TX8) (v := .ref a_t_s) C S 0 rfl rfl inlX8 0 (by decide) rfl qf_8_11 rfl dX8_becomes_24 ?_
    refine lv_iload_n (pc := 27) hx hb dX8_becomes_27 rfl (lv_at hl 2 rfl) ?_
    refine lv_iload_n (pc := 28) hx hb dX8_becomes_28 rfl (lv_at hl 0 rfl) ?_
    refine x_iast (pc := 29) (ws' := (w_X8_becomes G a_t a_t_s a_t_image a_t_mind a_t_aside a_t_text a_t_read a_t_comes a_t_begins a_t_latest a_t_move a_t_sort a_t_items a_t_cell a_t_carried t_isKept t_work t_kind t_letters t_at t_fault o2_t_back o2_t_waits t_miles o2_t_loads t_bestRound t_bestPlace t_bestAdds t_regret t_z (upd (upd t_s x1.toNatClampNeg x2) x1.toNatClampNeg (t_s x1.toNatClampNeg)) o2_t_comes o2_t_begins)) C S 1 rfl hv1 rfl dX8_becomes_29 (fun H locs S => ?_)
    refine lv_bipush (pc := 30) hx hb dX8_becomes_30 bc_m3 ?_
    cases hf
    exact x_iret (pc := 32) C S dX8_becomes_32
  · have hf := ifn c3 hf
    refine lv_iload_n (pc := 21) hx hb dX8_becomes_21 rfl (lv_at hl 0 rfl) ?_
    cases hf
    exact x_iret (pc := 22) C S dX8_becomes_22
end

abbrev rm_X8_works : Room := { frames := 0, cells := 0, slots := 0, locals := 0 }
abbrev kw_X8_works : Cond := .code yX8_works cX8_works 2 (some .boolean)
abbrev w_X8_works (G : GE) (a_t a_t_s a_t_image a_t_mind a_t_aside a_t_text a_t_read a_t_comes a_t_begins a_t_latest a_t_move a_t_sort a_t_items a_t_cell a_t_carried : Nat) (t_isKept : Int32) (t_work : Int32) (t_kind : Int32) (t_letters : Int32) (t_at : Int32) (t_fault : Int32) (t_back : Int32) (t_waits : Int32) (t_miles : Int32) (t_loads : Int32) (t_bestRound : Int32) (t_bestPlace : Int32) (t_bestAdds : Int32) (t_regret : Int32) (t_z : Int32) : va_W := [(a_t, ob 8 [.ref a_t_s, .ref a_t_image, .ref a_t_mind, .ref a_t_aside, .int t_isKept, .int t_work, .int t_kind, .ref a_t_text, .ref a_t_read, .int t_letters, .int t_at, .int t_fault, .ref a_t_comes, .ref a_t_begins, .ref a_t_latest, .int t_back, .int t_waits, .int t_miles, .int t_loads, .int t_bestRound, .int t_bestPlace, .int t_bestAdds, .int t_regret, .ref a_t_move, .ref a_t_sort, .ref a_t_items, .ref a_t_cell, .ref a_t_carried, .int t_z])]
section
variable {p : Program} {l : Launch} {e : Env} {s : State} {m : MethodId} {args : Array Value} {below : List Frame} {meth : Method} {c : Code} {A : Nat → Prop} {G : GE} {a_t a_t_s a_t_image a_t_mind a_t_aside a_t_text a_t_read a_t_comes a_t_begins a_t_latest a_t_move a_t_sort a_t_items a_t_cell a_t_carried : Nat} {r : Int32} {z_t_work : Int32}
set_option maxRecDepth 100000 in
set_option maxHeartbeats 4000000 in
theorem c_X8_works (l : Launch) (G : GE) (a_t a_t_s a_t_image a_t_mind a_t_aside a_t_text a_t_read a_t_comes a_t_begins a_t_latest a_t_move a_t_sort a_t_items a_t_cell a_t_carried : Nat) (t_isKept : Int32) (t_work : Int32) (t_kind : Int32) (t_letters : Int32) (t_at : Int32) (t_fault : Int32) (t_back : Int32) (t_waits : Int32) (t_miles : Int32) (t_loads : Int32) (t_bestRound : Int32) (t_bestPlace : Int32) (t_bestAdds : Int32) (t_regret : Int32) (t_z : Int32) (x1 : Int32) (r : Int32) (z_t_work : Int32) (hf : f_X8_works t_work x1 = some (r, z_t_work)) : CI l G yX8_works kw_X8_works rm_X8_works [.ref a_t, .int x1] (w_X8_works G a_t a_t_s a_t_image a_t_mind a_t_aside a_t_text a_t_read a_t_comes a_t_begins a_t_latest a_t_move a_t_sort a_t_items a_t_cell a_t_carried t_isKept t_work t_kind t_letters t_at t_fault t_back t_waits t_miles t_loads t_bestRound t_bestPlace t_bestAdds t_regret t_z) r (w_X8_works G a_t a_t_s a_t_image a_t_mind a_t_aside a_t_text a_t_read a_t_comes a_t_begins a_t_latest a_t_move a_t_sort a_t_items a_t_cell a_t_carried t_isKept z_t_work t_kind t_letters t_at t_fault t_back t_waits t_miles t_loads t_bestRound t_bestPlace t_bestAdds t_regret t_z) := by
  refine en_I (cc := cX8_works) (maxL := 2) (ret := (some .boolean)) (by decide +kernel) (Nat.le_of_ble_eq_true rfl) ?_
  intro p e s m args below meth c A ls C S hl
  have hl : lv_has ls 2 [(0, .ref a_t), (1, .int x1)] := hl
  have C : Cx p s m args meth c cX8_works (some .boolean) 2 RX8 G A := C
  unfold f_X8_works at hf
  have hx := C.1
  have hb := C.2.1
  have hown := C.2.2.2.2.1
  have hts := C.2.2.2.2.2.1
  have hN := C.2.2.2.2.2.2.2.2.2.2
  refine lv_aload_n (pc := 0) hx hb dX8_works_0 rfl (lv_at hl 0 rfl) ?_
  refine x_get (pc := 1) (ci := 8) (T := TX8) (v := .int t_work) C S 0 rfl rfl inlX8 5 (by decide) rfl qf_8_205 rfl dX8_works_1 ?_
  refine lv_iload_n (pc := 4) hx hb dX8_works_4 rfl (lv_at hl 1 rfl) ?_
  refine lv_iadd (pc := 5) hx hb dX8_works_5 ?_
  refine lv_sipush (pc := 6) hx hb dX8_works_6 sc_1500 ?_
  refine lv_icmp_le (tgt := 14) (pc := 9) hx hb dX8_works_9 (by decide) (fun c1 => ?_) (fun c1 => ?_)
  · have hf := ifp c1 hf
    refine lv_aload_n (pc := 14) hx hb dX8_works_14 rfl (lv_at hl 0 rfl) ?_
    refine lv_dup (pc := 15) hx hb dX8_works_15 rfl ?_
    refine x_get (pc := 16) (ci := 8) (T := TX8) (v := .int t_work) C S 0 rfl rfl inlX8 5 (by decide) rfl qf_8_205 rfl dX8_works_16 ?_
    refine lv_iload_n (pc := 19) hx hb dX8_works_19 rfl (lv_at hl 1 rfl) ?_
    refine lv_iadd (pc := 20) hx hb dX8_works_20 ?_
    refine x_put (pc := 21) (ci := 8) (T := TX8) (ws' := (w_X8_works G a_t a_t_s a_t_image a_t_mind a_t_aside a_t_text a_t_read a_t_comes a_t_begins a_t_latest a_t_move a_t_sort a_t_items a_t_cell a_t_carried t_isKept (t_work + x1) t_kind t_letters t_at t_fault t_back t_waits t_miles t_loads t_bestRound t_bestPlace t_bestAdds t_regret t_z)) C S tyX8 tyX8_ok nmX8 0 rfl rfl inlX8 5 (by decide) rfl qf_8_205 rfl rfl rfl rfl (Nat.le_of_ble_eq_true rfl) rfl dX8_works_21 (fun H locs S => ?_)
    refine lv_iconst (pc := 24) hx hb dX8_works_24 ic_1 ?_
    cases hf
    exact x_zret (pc := 25) (by decide) C S dX8_works_25
  · have hf := ifn c1 hf
    refine lv_iconst (pc := 12) hx hb dX8_works_12 ic_0 ?_
    cases hf
    exact x_zret (pc := 13) (by decide) C S dX8_works_13
end

abbrev rm_X8_reverses : Room := { frames := 0, cells := 0, slots := 0, locals := 0 }
abbrev kw_X8_reverses : Cond := .code yX8_reverses cX8_reverses 8 none
abbrev w_X8_reverses (G : GE) (a_t a_t_s a_t_image a_t_mind a_t_aside a_t_text a_t_read a_t_comes a_t_begins a_t_latest a_t_move a_t_sort a_t_items a_t_cell a_t_carried : Nat) (t_isKept : Int32) (t_work : Int32) (t_kind : Int32) (t_letters : Int32) (t_at : Int32) (t_fault : Int32) (t_back : Int32) (t_waits : Int32) (t_miles : Int32) (t_loads : Int32) (t_bestRound : Int32) (t_bestPlace : Int32) (t_bestAdds : Int32) (t_regret : Int32) (t_z : Int32) (t_s : Nat → Int32) : va_W := [(a_t, ob 8 [.ref a_t_s, .ref a_t_image, .ref a_t_mind, .ref a_t_aside, .int t_isKept, .int t_work, .int t_kind, .ref a_t_text, .ref a_t_read, .int t_letters, .int t_at, .int t_fault, .ref a_t_comes, .ref a_t_begins, .ref a_t_latest, .int t_back, .int t_waits, .int t_miles, .int t_loads, .int t_bestRound, .int t_bestPlace, .int t_bestAdds, .int t_regret, .ref a_t_move, .ref a_t_sort, .ref a_t_items, .ref a_t_cell, .ref a_t_carried, .int t_z]), (a_t_s, aI G 258 t_s)]
section
variable {p : Program} {l : Launch} {e : Env} {s : State} {m : MethodId} {args : Array Value} {below : List Frame} {meth : Method} {c : Code} {A : Nat → Prop} {G : GE} {a_t a_t_s a_t_image a_t_mind a_t_aside a_t_text a_t_read a_t_comes a_t_begins a_t_latest a_t_move a_t_sort a_t_items a_t_cell a_t_carried : Nat} {z_t_s : Nat → Int32}
set_option maxRecDepth 100000 in
set_option maxHeartbeats 4000000 in
theorem k_X8_reverses_18 (C : Cx p s m args meth c cX8_reverses none 8 RX8 G A) (t_isKept : Int32) (t_work : Int32) (t_kind : Int32) (t_letters : Int32) (t_at : Int32) (t_fault : Int32) (t_back : Int32) (t_waits : Int32) (t_miles : Int32) (t_loads : Int32) (t_bestRound : Int32) (t_bestPlace : Int32) (t_bestAdds : Int32) (t_regret : Int32) (t_z : Int32) (t_s : Nat → Int32) (x4 : Int32) (x5 : Int32) (x6 : Int32) (k18 : Int32 × Int32 × (Nat → Int32) → Option ((Nat → Int32))) (hk18 : ∀ {H : Heap} {locs : List Loc} {ls : Array Slot} (x5' : Int32) (x6' : Int32) (t_s' : Nat → Int32), k18 (x5', x6', t_s') = some z_t_s → St G A s.heap H locs (w_X8_reverses G a_t a_t_s a_t_image a_t_mind a_t_aside a_t_text a_t_read a_t_comes a_t_begins a_t_latest a_t_move a_t_sort a_t_items a_t_cell a_t_carried t_isKept t_work t_kind t_letters t_at t_fault t_back t_waits t_miles t_loads t_bestRound t_bestPlace t_bestAdds t_regret t_z t_s') → lv_has ls 8 [(0, .ref a_t), (4, .int x4), (5, .int x5'), (6, .int x6')] → W p l e rm_X8_reverses s m args below meth c H locs 0 0 (QV G below args s A (w_X8_reverses G a_t a_t_s a_t_image a_t_mind a_t_aside a_t_text a_t_read a_t_comes a_t_begins a_t_latest a_t_move a_t_sort a_t_items a_t_cell a_t_carried t_isKept t_work t_kind t_letters t_at t_fault t_back t_waits t_miles t_loads t_bestRound t_bestPlace t_bestAdds t_regret t_z z_t_s)) (F0 m 18 ls [])) {H : Heap} {locs : List Loc} {ls : Array Slot} (hf : b_X8_reverses_18 x4 k18 x5 x6 t_s = some z_t_s) (S : St G A s.heap H locs (w_X8_reverses G a_t a_t_s a_t_image a_t_mind a_t_aside a_t_text a_t_read a_t_comes a_t_begins a_t_latest a_t_move a_t_sort a_t_items a_t_cell a_t_carried t_isKept t_work t_kind t_letters t_at t_fault t_back t_waits t_miles t_loads t_bestRound t_bestPlace t_bestAdds t_regret t_z t_s)) (hl : lv_has ls 8 [(0, .ref a_t), (4, .int x4), (5, .int x5), (6, .int x6)]) : W p l e rm_X8_reverses s m args below meth c H locs 0 0 (QV G below args s A (w_X8_reverses G a_t a_t_s a_t_image a_t_mind a_t_aside a_t_text a_t_read a_t_comes a_t_begins a_t_latest a_t_move a_t_sort a_t_items a_t_cell a_t_carried t_isKept t_work t_kind t_letters t_at t_fault t_back t_waits t_miles t_loads t_bestRound t_bestPlace t_bestAdds t_regret t_z z_t_s)) (F0 m 18 ls []) := by
  unfold b_X8_reverses_18 at hf
  have hx := C.1
  have hb := C.2.1
  have hown := C.2.2.2.2.1
  have hts := C.2.2.2.2.2.1
  have hN := C.2.2.2.2.2.2.2.2.2.2
  refine lv_iload (pc := 18) hx hb dX8_reverses_18 (lv_at hl 2 rfl) ?_
  refine lv_iload (pc := 20) hx hb dX8_reverses_20 (lv_at hl 3 rfl) ?_
  refine lv_icmp_ge (tgt := 78) (pc := 22) hx hb dX8_reverses_22 (by decide) (fun c1 => ?_) (fun c1 => ?_)
  · have hf := ifp c1 hf
    cases hf
    exact x_vret (pc := 78) C S dX8_reverses_78
  · have hf := ifn c1 hf
    refine lv_aload_n (pc := 25) hx hb dX8_reverses_25 rfl (lv_at hl 0 rfl) ?_
    refine x_get (pc := 26) (ci := 8) (T := TX8) (v := .ref a_t_s) C S 0 rfl rfl inlX8 0 (by decide) rfl qf_8_11 rfl dX8_reverses_26 ?_
    refine lv_iload (pc := 29) hx hb dX8_reverses_29 (lv_at hl 1 rfl) ?_
    refine lv_iload (pc := 31) hx hb dX8_reverses_31 (lv_at hl 2 rfl) ?_
    refine lv_iadd (pc := 33) hx hb dX8_reverses_33 ?_
    obtain ⟨hv2, hf⟩ := gI_e hf
    refine x_iald (pc := 34) C S 1 rfl hv2 dX8_reverses_34 ?_
    refine lv_istore (pc := 35) (lv' := [(7, .int (t_s (x4 + x5).toNatClampNeg)), (0, .ref a_t), (4, .int x4), (5, .int x5), (6, .int x6)]) hx hb dX8_reverses_35 hl (by decide) rfl (fun ls hl => ?_)
    refine lv_aload_n (pc := 37) hx hb dX8_reverses_37 rfl (lv_at hl 1 rfl) ?_
    refine x_get (pc := 38) (ci := 8) (T := TX8) (v := .ref a_t_s) C S 0 rfl rfl inlX8 0 (by decide) rfl qf_8_11 rfl dX8_reverses_38 ?_
    refine lv_iload (pc := 41) hx hb dX8_reverses_41 (lv_at hl 2 rfl) ?_
    refine lv_iload (pc := 43) hx hb dX8_reverses_43 (lv_at hl 3 rfl) ?_
    refine lv_iadd (pc := 45) hx hb dX8_reverses_45 ?_
    refine lv_aload_n (pc := 46) hx hb dX8_reverses_46 rfl (lv_at hl 1 rfl) ?_
    refine x_get (pc := 47) (ci := 8) (T := TX8) (v := .ref a_t_s) C S 0 rfl rfl inlX8 0 (by decide) rfl qf_8_11 rfl dX8_reverses_47 ?_
    refine lv_iload (pc := 50) hx hb dX8_reverses_50 (lv_at hl 2 rfl) ?_
    refine lv_iload (pc := 52) hx hb dX8_reverses_52 (lv_at hl 4 rfl) ?_
    refine lv_iadd (pc := 54) hx hb dX8_reverses_54 ?_
    obtain ⟨hv3, hf⟩ := gI_e hf
    refine x_iald (pc := 55) C S 1 rfl hv3 dX8_reverses_55 ?_
    refine x_iast (pc := 56) (ws' := (w_X8_reverses G a_t a_t_s a_t_image a_t_mind a_t_aside a_t_text a_t_read a_t_comes a_t_begins a_t_latest a_t_move a_t_sort a_t_items a_t_cell a_t_carried t_isKept t_work t_kind t_letters t_at t_fault t_back t_waits t_miles t_loads t_bestRound t_bestPlace t_bestAdds t_regret t_z (upd t_s (x4 + x5).toNatClampNeg (t_s (x4 + x6).toNatClampNeg)))) C S 1 rfl hv2 rfl dX8_reverses_56 (fun H locs S => ?_)
    refine lv_aload_n (pc := 57) hx hb dX8_reverses_57 rfl (lv_at hl 1 rfl) ?_
    refine x_get (pc := 58) (ci := 8) (T := TX8) (v := .ref a_t_s) C S 0 rfl rfl inlX8 0 (by decide) rfl qf_8_11 rfl dX8_reverses_58 ?_
    refine lv_iload (pc := 61) hx hb dX8_reverses_61 (lv_at hl 2 rfl) ?_
    refine lv_iload (pc := 63) hx hb dX8_reverses_63 (lv_at hl 4 rfl) ?_
    refine lv_iadd (pc := 65) hx hb dX8_reverses_65 ?_
    refine lv_iload (pc := 66) hx hb dX8_reverses_66 (lv_at hl 0 rfl) ?_
    refine x_iast (pc := 68) (ws' := (w_X8_reverses G a_t a_t_s a_t_image a_t_mind a_t_aside a_t_text a_t_read a_t_comes a_t_begins a_t_latest a_t_move a_t_sort a_t_items a_t_cell a_t_carried t_isKept t_work t_kind t_letters t_at t_fault t_back t_waits t_miles t_loads t_bestRound t_bestPlace t_bestAdds t_regret t_z (upd (upd t_s (x4 + x5).toNatClampNeg (t_s (x4 + x6).toNatClampNeg)) (x4 + x6).toNatClampNeg (t_s (x4 + x5).toNatClampNeg)))) C S 1 rfl hv3 rfl dX8_reverses_68 (fun H locs S => ?_)
    refine lv_iinc (pc := 69) (v := (x5 + (1 : Int32))) (lv' := [(5, .int (x5 + (1 : Int32))), (7, .int (t_s (x4 + x5).toNatClampNeg)), (0, .ref a_t), (4, .int x4), (6, .int x6)]) hx hb dX8_reverses_69 hl (k := 3) rfl (congrArg (fun z => x5 + z) ic_1) (by decide) rfl (fun ls hl => ?_)
    refine lv_iinc (pc := 72) (v := (x6 + (-1 : Int32))) (lv' := [(6, .int (x6 + (-1 : Int32))), (5, .int (x5 + (1 : Int32))), (7, .int (t_s (x4 + x5).toNatClampNeg)), (0, .ref a_t), (4, .int x4)]) hx hb dX8_reverses_72 hl (k := 4) rfl (congrArg (fun z => x6 + z) ic_m1) (by decide) rfl (fun ls hl => ?_)
    refine lv_goto (tgt := 18) (pc := 75) hx hb dX8_reverses_75 (by decide) ?_
    exact hk18 ((x5 + (1 : Int32))) ((x6 + (-1 : Int32))) ((upd (upd t_s (x4 + x5).toNatClampNeg (t_s (x4 + x6).toNatClampNeg)) (x4 + x6).toNatClampNeg (t_s (x4 + x5).toNatClampNeg)))  hf S (lv_sub hl [3, 4, 1, 0] rfl)
set_option maxRecDepth 100000 in
set_option maxHeartbeats 4000000 in
theorem h_X8_reverses_18 (C : Cx p s m args meth c cX8_reverses none 8 RX8 G A) (t_isKept : Int32) (t_work : Int32) (t_kind : Int32) (t_letters : Int32) (t_at : Int32) (t_fault : Int32) (t_back : Int32) (t_waits : Int32) (t_miles : Int32) (t_loads : Int32) (t_bestRound : Int32) (t_bestPlace : Int32) (t_bestAdds : Int32) (t_regret : Int32) (t_z : Int32) (x4 : Int32) : ∀ (n : Nat) (x5 : Int32) (x6 : Int32) (t_s : Nat → Int32) {H : Heap} {locs : List Loc} {ls : Array Slot} (hf : lp (fun k x => b_X8_reverses_18 x4 k x.1 x.2.1 x.2.2) n (x5, x6, t_s) = some z_t_s) (S : St G A s.heap H locs (w_X8_reverses G a_t a_t_s a_t_image a_t_mind a_t_aside a_t_text a_t_read a_t_comes a_t_begins a_t_latest a_t_move a_t_sort a_t_items a_t_cell a_t_carried t_isKept t_work t_kind t_letters t_at t_fault t_back t_waits t_miles t_loads t_bestRound t_bestPlace t_bestAdds t_regret t_z t_s)) (hl : lv_has ls 8 [(0, .ref a_t), (4, .int x4), (5, .int x5), (6, .int x6)]), W p l e rm_X8_reverses s m args below meth c H locs 0 0 (QV G below args s A (w_X8_reverses G a_t a_t_s a_t_image a_t_mind a_t_aside a_t_text a_t_read a_t_comes a_t_begins a_t_latest a_t_move a_t_sort a_t_items a_t_cell a_t_carried t_isKept t_work t_kind t_letters t_at t_fault t_back t_waits t_miles t_loads t_bestRound t_bestPlace t_bestAdds t_regret t_z z_t_s)) (F0 m 18 ls []) := by
  intro n
  induction n with
  | zero =>
    intro x5 x6 t_s  H locs ls hf
    cases hf
  | succ n ih =>
    intro x5 x6 t_s  H locs ls hf S hl
    have hf : b_X8_reverses_18 x4 (lp (fun k x => b_X8_reverses_18 x4 k x.1 x.2.1 x.2.2) n) x5 x6 t_s = some z_t_s := hf
    exact k_X8_reverses_18 C t_isKept t_work t_kind t_letters t_at t_fault t_back t_waits t_miles t_loads t_bestRound t_bestPlace t_bestAdds t_regret t_z t_s x4 x5 x6  (lp (fun k x => b_X8_reverses_18 x4 k x.1 x.2.1 x.2.2) n) (fun x5' x6' t_s'  h S hl => ih x5' x6' t_s'  h S hl) hf S hl
set_option maxRecDepth 100000 in
set_option maxHeartbeats 4000000 in
theorem c_X8_reverses (l : Launch) (G : GE) (a_t a_t_s a_t_image a_t_mind a_t_aside a_t_text a_t_read a_t_comes a_t_begins a_t_latest a_t_move a_t_sort a_t_items a_t_cell a_t_carried : Nat) (t_isKept : Int32) (t_work : Int32) (t_kind : Int32) (t_letters : Int32) (t_at : Int32) (t_fault : Int32) (t_back : Int32) (t_waits : Int32) (t_miles : Int32) (t_loads : Int32) (t_bestRound : Int32) (t_bestPlace : Int32) (t_bestAdds : Int32) (t_regret : Int32) (t_z : Int32) (t_s : Nat → Int32) (x1 : Int32) (x2 : Int32) (x3 : Int32) (z_t_s : Nat → Int32) (hf : f_X8_reverses t_s x1 x2 x3 = some z_t_s) : CV l G yX8_reverses kw_X8_reverses rm_X8_reverses [.ref a_t, .int x1, .int x2, .int x3] (w_X8_reverses G a_t a_t_s a_t_image a_t_mind a_t_aside a_t_text a_t_read a_t_comes a_t_begins a_t_latest a_t_move a_t_sort a_t_items a_t_cell a_t_carried t_isKept t_work t_kind t_letters t_at t_fault t_back t_waits t_miles t_loads t_bestRound t_bestPlace t_bestAdds t_regret t_z t_s) (w_X8_reverses G a_t a_t_s a_t_image a_t_mind a_t_aside a_t_text a_t_read a_t_comes a_t_begins a_t_latest a_t_move a_t_sort a_t_items a_t_cell a_t_carried t_isKept t_work t_kind t_letters t_at t_fault t_back t_waits t_miles t_loads t_bestRound t_bestPlace t_bestAdds t_regret t_z z_t_s) := by
  refine en_V (cc := cX8_reverses) (maxL := 8) (ret := none) (by decide +kernel) (Nat.le_of_ble_eq_true rfl) ?_
  intro p e s m args below meth c A ls C S hl
  have hl : lv_has ls 8 [(0, .ref a_t), (1, .int x1), (2, .int x2), (3, .int x3)] := hl
  have C : Cx p s m args meth c cX8_reverses none 8 RX8 G A := C
  unfold f_X8_reverses at hf
  have hx := C.1
  have hb := C.2.1
  have hown := C.2.2.2.2.1
  have hts := C.2.2.2.2.2.1
  have hN := C.2.2.2.2.2.2.2.2.2.2
  refine lv_sipush (pc := 0) hx hb dX8_reverses_0 sc_178 ?_
  refine lv_bipush (pc := 3) hx hb dX8_reverses_3 bc_20 ?_
  refine lv_iload_n (pc := 5) hx hb dX8_reverses_5 rfl (lv_at hl 1 rfl) ?_
  refine lv_imul (pc := 6) hx hb dX8_reverses_6 ?_
  refine lv_iadd (pc := 7) hx hb dX8_reverses_7 ?_
  refine lv_iconst (pc := 8) hx hb dX8_reverses_8 ic_4 ?_
  refine lv_iadd (pc := 9) hx hb dX8_reverses_9 ?_
  refine lv_istore (pc := 10) (lv' := [(4, .int (((178 : Int32) + ((20 : Int32) * x1)) + (4 : Int32))), (0, .ref a_t), (1, .int x1), (2, .int x2), (3, .int x3)]) hx hb dX8_reverses_10 hl (by decide) rfl (fun ls hl => ?_)
  refine lv_iload_n (pc := 12) hx hb dX8_reverses_12 rfl (lv_at hl 3 rfl) ?_
  refine lv_istore (pc := 13) (lv' := [(5, .int x2), (4, .int (((178 : Int32) + ((20 : Int32) * x1)) + (4 : Int32))), (0, .ref a_t), (1, .int x1), (2, .int x2), (3, .int x3)]) hx hb dX8_reverses_13 hl (by decide) rfl (fun ls hl => ?_)
  refine lv_iload_n (pc := 15) hx hb dX8_reverses_15 rfl (lv_at hl 5 rfl) ?_
  refine lv_istore (pc := 16) (lv' := [(6, .int x3), (5, .int x2), (4, .int (((178 : Int32) + ((20 : Int32) * x1)) + (4 : Int32))), (0, .ref a_t), (1, .int x1), (2, .int x2), (3, .int x3)]) hx hb dX8_reverses_16 hl (by decide) rfl (fun ls hl => ?_)
  exact h_X8_reverses_18 C (t_isKept) (t_work) (t_kind) (t_letters) (t_at) (t_fault) (t_back) (t_waits) (t_miles) (t_loads) (t_bestRound) (t_bestPlace) (t_bestAdds) (t_regret) (t_z) ((((178 : Int32) + ((20 : Int32) * x1)) + (4 : Int32))) fu (x2) (x3) (t_s) hf S (lv_sub hl [3, 2, 1, 0] rfl)
end

abbrev rm_X8_turnGains : Room := { frames := 5, cells := 0, slots := 0, locals := 120 }
abbrev kw_X8_turnGains : Cond := .code yX8_turnGains cX8_turnGains 6 (some .int)
abbrev w_X8_turnGains (G : GE) (a_t a_t_s a_t_image a_t_mind a_t_aside a_t_text a_t_read a_t_comes a_t_begins a_t_latest a_t_move a_t_sort a_t_items a_t_cell a_t_carried : Nat) (t_isKept : Int32) (t_work : Int32) (t_kind : Int32) (t_letters : Int32) (t_at : Int32) (t_fault : Int32) (t_back : Int32) (t_waits : Int32) (t_miles : Int32) (t_loads : Int32) (t_bestRound : Int32) (t_bestPlace : Int32) (t_bestAdds : Int32) (t_regret : Int32) (t_z : Int32) (t_s : Nat → Int32) (t_comes : Nat → Int32) (t_begins : Nat → Int32) : va_W := [(a_t, ob 8 [.ref a_t_s, .ref a_t_image, .ref a_t_mind, .ref a_t_aside, .int t_isKept, .int t_work, .int t_kind, .ref a_t_text, .ref a_t_read, .int t_letters, .int t_at, .int t_fault, .ref a_t_comes, .ref a_t_begins, .ref a_t_latest, .int t_back, .int t_waits, .int t_miles, .int t_loads, .int t_bestRound, .int t_bestPlace, .int t_bestAdds, .int t_regret, .ref a_t_move, .ref a_t_sort, .ref a_t_items, .ref a_t_cell, .ref a_t_carried, .int t_z]), (a_t_s, aI G 258 t_s), (a_t_comes, aI G 16 t_comes), (a_t_begins, aI G 16 t_begins)]
theorem u_X8_turnGains_X8_milesOf_111 {s : State} {args : Array Value} (hts : ∀ w ∈ WU, w.before args s = true) : CallW rm_X8_turnGains s args RX8 RX8 111 yX8_milesOf cX8_milesOf 5 (some .int) (kw_X8_milesOf :: WU) rm_X8_milesOf 0 0 1 := cwV 1 hts (gV qm_8_111 qi_X8_milesOf ql_X8_milesOf qn_8 qc_X8_milesOf) rfl rfl rfl (by decide +kernel) ⟨Nat.le_of_ble_eq_true rfl, Nat.le_of_ble_eq_true rfl⟩
theorem u_X8_turnGains_X8_reverses_214 {s : State} {args : Array Value} (hts : ∀ w ∈ WU, w.before args s = true) : CallW rm_X8_turnGains s args RX8 RX8 214 yX8_reverses cX8_reverses 8 none (kw_X8_reverses :: WU) rm_X8_reverses 0 0 3 := cwV 3 hts (gV qm_8_214 qi_X8_reverses ql_X8_reverses qn_8 qc_X8_reverses) rfl rfl rfl (by decide +kernel) ⟨Nat.le_of_ble_eq_true rfl, Nat.le_of_ble_eq_true rfl⟩
theorem u_X8_turnGains_X8_holds_104 {s : State} {args : Array Value} (hts : ∀ w ∈ WU, w.before args s = true) : CallW rm_X8_turnGains s args RX8 RX8 104 yX8_holds cX8_holds 2 (some .boolean) (kw_X8_holds :: WU) rm_X8_holds 0 0 1 := cwV 1 hts (gV qm_8_104 qi_X8_holds ql_X8_holds qn_8 qc_X8_holds) rfl rfl rfl (by decide +kernel) ⟨Nat.le_of_ble_eq_true rfl, Nat.le_of_ble_eq_true rfl⟩
theorem u_X8_turnGains_X8_inRow_63 {s : State} {args : Array Value} (hts : ∀ w ∈ WU, w.before args s = true) : CallW rm_X8_turnGains s args RX8 RX8 63 yX8_inRow cX8_inRow 3 (some .int) (kw_X8_inRow :: WU) rm_X8_inRow 0 0 2 := cwV 2 hts (gV qm_8_63 qi_X8_inRow ql_X8_inRow qn_8 qc_X8_inRow) rfl rfl rfl (by decide +kernel) ⟨Nat.le_of_ble_eq_true rfl, Nat.le_of_ble_eq_true rfl⟩
theorem u_X8_turnGains_X8_stopAt_78 {s : State} {args : Array Value} (hts : ∀ w ∈ WU, w.before args s = true) : CallW rm_X8_turnGains s args RX8 RX8 78 yX8_stopAt cX8_stopAt 3 (some .int) (kw_X8_stopAt :: WU) rm_X8_stopAt 0 0 2 := cwV 2 hts (gV qm_8_78 qi_X8_stopAt ql_X8_stopAt qn_8 qc_X8_stopAt) rfl rfl rfl (by decide +kernel) ⟨Nat.le_of_ble_eq_true rfl, Nat.le_of_ble_eq_true rfl⟩
section
variable {p : Program} {l : Launch} {e : Env} {s : State} {m : MethodId} {args : Array Value} {below : List Frame} {meth : Method} {c : Code} {A : Nat → Prop} {G : GE} {a_t a_t_s a_t_image a_t_mind a_t_aside a_t_text a_t_read a_t_comes a_t_begins a_t_latest a_t_move a_t_sort a_t_items a_t_cell a_t_carried : Nat} {r : Int32} {z_t_s : Nat → Int32} {z_t_comes : Nat → Int32} {z_t_begins : Nat → Int32} {z_t_back : Int32} {z_t_waits : Int32} {z_t_loads : Int32}
set_option maxRecDepth 100000 in
set_option maxHeartbeats 4000000 in
theorem k_X8_turnGains_70 (C : Cx p s m args meth c cX8_turnGains (some .int) 6 RX8 G A) (t_isKept : Int32) (t_work : Int32) (t_kind : Int32) (t_letters : Int32) (t_at : Int32) (t_fault : Int32) (t_back : Int32) (t_waits : Int32) (t_miles : Int32) (t_loads : Int32) (t_bestRound : Int32) (t_bestPlace : Int32) (t_bestAdds : Int32) (t_regret : Int32) (t_z : Int32) (t_s : Nat → Int32) (t_comes : Nat → Int32) (t_begins : Nat → Int32) (x1 : Int32) (x2 : Int32) (x3 : Int32) (y0 : Int32) {H : Heap} {locs : List Loc} {ls : Array Slot} (hf : b_X8_turnGains_70 x1 x2 x3 y0 t_s t_comes t_begins t_back t_waits t_loads = some (r, z_t_s, z_t_comes, z_t_begins, z_t_back, z_t_waits, z_t_loads)) (S : St G A s.heap H locs (w_X8_turnGains G a_t a_t_s a_t_image a_t_mind a_t_aside a_t_text a_t_read a_t_comes a_t_begins a_t_latest a_t_move a_t_sort a_t_items a_t_cell a_t_carried t_isKept t_work t_kind t_letters t_at t_fault t_back t_waits t_miles t_loads t_bestRound t_bestPlace t_bestAdds t_regret t_z t_s t_comes t_begins)) (hl : lv_has ls 6 [(0, .ref a_t), (1, .int x1), (2, .int x2), (3, .int x3)]) : W p l e rm_X8_turnGains s m args below meth c H locs 0 0 (QI G below args s A r (w_X8_turnGains G a_t a_t_s a_t_image a_t_mind a_t_aside a_t_text a_t_read a_t_comes a_t_begins a_t_latest a_t_move a_t_sort a_t_items a_t_cell a_t_carried t_isKept t_work t_kind t_letters t_at t_fault z_t_back z_t_waits t_miles z_t_loads t_bestRound t_bestPlace t_bestAdds t_regret t_z z_t_s z_t_comes z_t_begins)) (F0 m 70 ls [.int y0]) := by
  unfold b_X8_turnGains_70 at hf
  have hx := C.1
  have hb := C.2.1
  have hown := C.2.2.2.2.1
  have hts := C.2.2.2.2.2.1
  have hN := C.2.2.2.2.2.2.2.2.2.2
  refine lv_istore (pc := 70) (lv' := [(5, .int y0), (0, .ref a_t), (1, .int x1), (2, .int x2), (3, .int x3)]) hx hb dX8_turnGains_70 hl (by decide) rfl (fun ls hl => ?_)
  refine lv_aload_n (pc := 72) hx hb dX8_turnGains_72 rfl (lv_at hl 1 rfl) ?_
  refine lv_iload_n (pc := 73) hx hb dX8_turnGains_73 rfl (lv_at hl 2 rfl) ?_
  refine lv_iload_n (pc := 74) hx hb dX8_turnGains_74 rfl (lv_at hl 3 rfl) ?_
  refine lv_iload_n (pc := 75) hx hb dX8_turnGains_75 rfl (lv_at hl 4 rfl) ?_
  obtain ⟨o1_t_s, hq1, hf⟩ := bd_e hf
  refine x_vV (pc := 76) (As := [.int x1, .int x2, .int x3]) (rest := []) (isC := [0, 1]) (ws' := (w_X8_turnGains G a_t a_t_s a_t_image a_t_mind a_t_aside a_t_text a_t_read a_t_comes a_t_begins a_t_latest a_t_move a_t_sort a_t_items a_t_cell a_t_carried t_isKept t_work t_kind t_letters t_at t_fault t_back t_waits t_miles t_loads t_bestRound t_bestPlace t_bestAdds t_regret t_z o1_t_s t_comes t_begins)) C S (c_X8_reverses l G a_t a_t_s a_t_image a_t_mind a_t_aside a_t_text a_t_read a_t_comes a_t_begins a_t_latest a_t_move a_t_sort a_t_items a_t_cell a_t_carried t_isKept t_work t_kind t_letters t_at t_fault t_back t_waits t_miles t_loads t_bestRound t_bestPlace t_bestAdds t_regret t_z t_s x1 x2 x3 o1_t_s hq1) (u_X8_turnGains_X8_reverses_214 hts) (ci := 8) rfl 0 rfl rfl (by decide +kernel) [some 0, some 1, none, none] (by decide +kernel) rfl rfl rfl hl.1 rfl (Nat.le_of_ble_eq_true rfl) dX8_turnGains_76 (fun H locs S => ?_)
  refine lv_iload (pc := 79) hx hb dX8_turnGains_79 (lv_at hl 0 rfl) ?_
  cases hf
  exact x_iret (pc := 81) C S dX8_turnGains_81
set_option maxRecDepth 100000 in
set_option maxHeartbeats 4000000 in
theorem k_X8_turnGains_3 (C : Cx p s m args meth c cX8_turnGains (some .int) 6 RX8 G A) (t_isKept : Int32) (t_work : Int32) (t_kind : Int32) (t_letters : Int32) (t_at : Int32) (t_fault : Int32) (t_back : Int32) (t_waits : Int32) (t_miles : Int32) (t_loads : Int32) (t_bestRound : Int32) (t_bestPlace : Int32) (t_bestAdds : Int32) (t_regret : Int32) (t_z : Int32) (t_s : Nat → Int32) (t_comes : Nat → Int32) (t_begins : Nat → Int32) (x1 : Int32) (x2 : Int32) (x3 : Int32) (x4 : Int32) (k3 : Int32 → Option (Int32 × (Nat → Int32) × (Nat → Int32) × (Nat → Int32) × Int32 × Int32 × Int32)) (hk3 : ∀ {H : Heap} {locs : List Loc} {ls : Array Slot} (x4' : Int32), k3 x4' = some (r, z_t_s, z_t_comes, z_t_begins, z_t_back, z_t_waits, z_t_loads) → St G A s.heap H locs (w_X8_turnGains G a_t a_t_s a_t_image a_t_mind a_t_aside a_t_text a_t_read a_t_comes a_t_begins a_t_latest a_t_move a_t_sort a_t_items a_t_cell a_t_carried t_isKept t_work t_kind t_letters t_at t_fault t_back t_waits t_miles t_loads t_bestRound t_bestPlace t_bestAdds t_regret t_z t_s t_comes t_begins) → lv_has ls 6 [(0, .ref a_t), (1, .int x1), (2, .int x2), (3, .int x3), (4, .int x4')] → W p l e rm_X8_turnGains s m args below meth c H locs 0 0 (QI G below args s A r (w_X8_turnGains G a_t a_t_s a_t_image a_t_mind a_t_aside a_t_text a_t_read a_t_comes a_t_begins a_t_latest a_t_move a_t_sort a_t_items a_t_cell a_t_carried t_isKept t_work t_kind t_letters t_at t_fault z_t_back z_t_waits t_miles z_t_loads t_bestRound t_bestPlace t_bestAdds t_regret t_z z_t_s z_t_comes z_t_begins)) (F0 m 3 ls [])) {H : Heap} {locs : List Loc} {ls : Array Slot} (hf : b_X8_turnGains_3 x1 x2 x3 t_s t_comes t_begins t_back t_waits t_loads k3 x4 = some (r, z_t_s, z_t_comes, z_t_begins, z_t_back, z_t_waits, z_t_loads)) (S : St G A s.heap H locs (w_X8_turnGains G a_t a_t_s a_t_image a_t_mind a_t_aside a_t_text a_t_read a_t_comes a_t_begins a_t_latest a_t_move a_t_sort a_t_items a_t_cell a_t_carried t_isKept t_work t_kind t_letters t_at t_fault t_back t_waits t_miles t_loads t_bestRound t_bestPlace t_bestAdds t_regret t_z t_s t_comes t_begins)) (hl : lv_has ls 6 [(0, .ref a_t), (1, .int x1), (2, .int x2), (3, .int x3), (4, .int x4)]) : W p l e rm_X8_turnGains s m args below meth c H locs 0 0 (QI G below args s A r (w_X8_turnGains G a_t a_t_s a_t_image a_t_mind a_t_aside a_t_text a_t_read a_t_comes a_t_begins a_t_latest a_t_move a_t_sort a_t_items a_t_cell a_t_carried t_isKept t_work t_kind t_letters t_at t_fault z_t_back z_t_waits t_miles z_t_loads t_bestRound t_bestPlace t_bestAdds t_regret t_z z_t_s z_t_comes z_t_begins)) (F0 m 3 ls []) := by
  unfold b_X8_turnGains_3 at hf
  have hx := C.1
  have hb := C.2.1
  have hown := C.2.2.2.2.1
  have hts := C.2.2.2.2.2.1
  have hN := C.2.2.2.2.2.2.2.2.2.2
  refine lv_iload (pc := 3) hx hb dX8_turnGains_3 (lv_at hl 4 rfl) ?_
  refine lv_iload_n (pc := 5) hx hb dX8_turnGains_5 rfl (lv_at hl 3 rfl) ?_
  refine lv_icmp_gt (tgt := 35) (pc := 6) hx hb dX8_turnGains_6 (by decide) (fun c1 => ?_) (fun c1 => ?_)
  · have hf := ifp c1 hf
    refine lv_aload_n (pc := 35) hx hb dX8_turnGains_35 rfl (lv_at hl 0 rfl) ?_
    refine lv_iload_n (pc := 36) hx hb dX8_turnGains_36 rfl (lv_at hl 1 rfl) ?_
    obtain ⟨r2, hq2, hf⟩ := bd_e hf
    refine x_vI (pc := 37) (As := [.int x1]) (rest := []) (isC := [0, 1]) (ws' := (w_X8_turnGains G a_t a_t_s a_t_image a_t_mind a_t_aside a_t_text a_t_read a_t_comes a_t_begins a_t_latest a_t_move a_t_sort a_t_items a_t_cell a_t_carried t_isKept t_work t_kind t_letters t_at t_fault t_back t_waits t_miles t_loads t_bestRound t_bestPlace t_bestAdds t_regret t_z t_s t_comes t_begins)) C S (c_X8_milesOf l G a_t a_t_s a_t_image a_t_mind a_t_aside a_t_text a_t_read a_t_comes a_t_begins a_t_latest a_t_move a_t_sort a_t_items a_t_cell a_t_carried t_isKept t_work t_kind t_letters t_at t_fault t_back t_waits t_miles t_loads t_bestRound t_bestPlace t_bestAdds t_regret t_z t_s x1 r2 hq2) (u_X8_turnGains_X8_milesOf_111 hts) (ci := 8) rfl 0 rfl rfl (by decide +kernel) [some 0, some 1, none, none] (by decide +kernel) rfl rfl rfl hl.1 rfl (Nat.le_of_ble_eq_true rfl) dX8_turnGains_37 (fun H locs S => ?_)
    refine lv_istore (pc := 40) (lv' := [(4, .int r2), (0, .ref a_t), (1, .int x1), (2, .int x2), (3, .int x3)]) hx hb dX8_turnGains_40 hl (by decide) rfl (fun ls hl => ?_)
    refine lv_aload_n (pc := 42) hx hb dX8_turnGains_42 rfl (lv_at hl 1 rfl) ?_
    refine lv_iload_n (pc := 43) hx hb dX8_turnGains_43 rfl (lv_at hl 2 rfl) ?_
    refine lv_iload_n (pc := 44) hx hb dX8_turnGains_44 rfl (lv_at hl 3 rfl) ?_
    refine lv_iload_n (pc := 45) hx hb dX8_turnGains_45 rfl (lv_at hl 4 rfl) ?_
    obtain ⟨o3_t_s, hq3, hf⟩ := bd_e hf
    refine x_vV (pc := 46) (As := [.int x1, .int x2, .int x3]) (rest := []) (isC := [0, 1]) (ws' := (w_X8_turnGains G a_t a_t_s a_t_image a_t_mind a_t_aside a_t_text a_t_read a_t_comes a_t_begins a_t_latest a_t_move a_t_sort a_t_items a_t_cell a_t_carried t_isKept t_work t_kind t_letters t_at t_fault t_back t_waits t_miles t_loads t_bestRound t_bestPlace t_bestAdds t_regret t_z o3_t_s t_comes t_begins)) C S (c_X8_reverses l G a_t a_t_s a_t_image a_t_mind a_t_aside a_t_text a_t_read a_t_comes a_t_begins a_t_latest a_t_move a_t_sort a_t_items a_t_cell a_t_carried t_isKept t_work t_kind t_letters t_at t_fault t_back t_waits t_miles t_loads t_bestRound t_bestPlace t_bestAdds t_regret t_z t_s x1 x2 x3 o3_t_s hq3) (u_X8_turnGains_X8_reverses_214 hts) (ci := 8) rfl 0 rfl rfl (by decide +kernel) [some 0, some 1, none, none] (by decide +kernel) rfl rfl rfl hl.1 rfl (Nat.le_of_ble_eq_true rfl) dX8_turnGains_46 (fun H locs S => ?_)
    refine lv_aload_n (pc := 49) hx hb dX8_turnGains_49 rfl (lv_at hl 1 rfl) ?_
    refine lv_iload_n (pc := 50) hx hb dX8_turnGains_50 rfl (lv_at hl 2 rfl) ?_
    obtain ⟨⟨r4, o4_t_comes, o4_t_begins, o4_t_back, o4_t_waits, o4_t_loads⟩, hq4, hf⟩ := bd_e hf
    refine x_vI (pc := 51) (As := [.int x1]) (rest := []) (isC := [0, 1, 2, 3]) (ws' := (w_X8_turnGains G a_t a_t_s a_t_image a_t_mind a_t_aside a_t_text a_t_read a_t_comes a_t_begins a_t_latest a_t_move a_t_sort a_t_items a_t_cell a_t_carried t_isKept t_work t_kind t_letters t_at t_fault o4_t_back o4_t_waits t_miles o4_t_loads t_bestRound t_bestPlace t_bestAdds t_regret t_z o3_t_s o4_t_comes o4_t_begins)) C S (c_X8_holds l G a_t a_t_s a_t_image a_t_mind a_t_aside a_t_text a_t_read a_t_comes a_t_begins a_t_latest a_t_move a_t_sort a_t_items a_t_cell a_t_carried t_isKept t_work t_kind t_letters t_at t_fault t_back t_waits t_miles t_loads t_bestRound t_bestPlace t_bestAdds t_regret t_z o3_t_s t_comes t_begins x1 r4 o4_t_comes o4_t_begins o4_t_back o4_t_waits o4_t_loads hq4) (u_X8_turnGains_X8_holds_104 hts) (ci := 8) rfl 0 rfl rfl (by decide +kernel) [some 0, some 1, some 2, some 3] (by decide +kernel) rfl rfl rfl hl.1 rfl (Nat.le_of_ble_eq_true rfl) dX8_turnGains_51 (fun H locs S => ?_)
    refine lv_if_eq (tgt := 68) (pc := 54) hx hb dX8_turnGains_54 (by decide) (fun c5 => ?_) (fun c5 => ?_)
    · have hf := ifp c5 hf
      refine lv_ldc (pc := 68) hx hb hown (hts _ qk_8_169) dX8_turnGains_68 ?_
      exact k_X8_turnGains_70 C (t_isKept) (t_work) (t_kind) (t_letters) (t_at) (t_fault) (o4_t_back) (o4_t_waits) (t_miles) (o4_t_loads) (t_bestRound) (t_bestPlace) (t_bestAdds) (t_regret) (t_z) (o3_t_s) (o4_t_comes) (o4_t_begins) (x1) (x2) (x3) ((-100000 : Int32)) hf S (lv_sub hl [1, 2, 3, 4] rfl)
    · have hf := ifn c5 hf
      refine lv_iload (pc := 57) hx hb dX8_turnGains_57 (lv_at hl 0 rfl) ?_
      refine lv_aload_n (pc := 59) hx hb dX8_turnGains_59 rfl (lv_at hl 1 rfl) ?_
      refine lv_iload_n (pc := 60) hx hb dX8_turnGains_60 rfl (lv_at hl 2 rfl) ?_
      obtain ⟨r6, hq6, hf⟩ := bd_e hf
      refine x_vI (pc := 61) (As := [.int x1]) (rest := [.int r2]) (isC := [0, 1]) (ws' := (w_X8_turnGains G a_t a_t_s a_t_image a_t_mind a_t_aside a_t_text a_t_read a_t_comes a_t_begins a_t_latest a_t_move a_t_sort a_t_items a_t_cell a_t_carried t_isKept t_work t_kind t_letters t_at t_fault o4_t_back o4_t_waits t_miles o4_t_loads t_bestRound t_bestPlace t_bestAdds t_regret t_z o3_t_s o4_t_comes o4_t_begins)) C S (c_X8_milesOf l G a_t a_t_s a_t_image a_t_mind a_t_aside a_t_text a_t_read a_t_comes a_t_begins a_t_latest a_t_move a_t_sort a_t_items a_t_cell a_t_carried t_isKept t_work t_kind t_letters t_at t_fault o4_t_back o4_t_waits t_miles o4_t_loads t_bestRound t_bestPlace t_bestAdds t_regret t_z o3_t_s x1 r6 hq6) (u_X8_turnGains_X8_milesOf_111 hts) (ci := 8) rfl 0 rfl rfl (by decide +kernel) [some 0, some 1, none, none] (by decide +kernel) rfl rfl rfl hl.1 rfl (Nat.le_of_ble_eq_true rfl) dX8_turnGains_61 (fun H locs S => ?_)
      refine lv_isub (pc := 64) hx hb dX8_turnGains_64 ?_
      refine lv_goto (tgt := 70) (pc := 65) hx hb dX8_turnGains_65 (by decide) ?_
      exact k_X8_turnGains_70 C (t_isKept) (t_work) (t_kind) (t_letters) (t_at) (t_fault) (o4_t_back) (o4_t_waits) (t_miles) (o4_t_loads) (t_bestRound) (t_bestPlace) (t_bestAdds) (t_regret) (t_z) (o3_t_s) (o4_t_comes) (o4_t_begins) (x1) (x2) (x3) ((r2 - r6)) hf S (lv_sub hl [1, 2, 3, 4] rfl)
  · have hf := ifn c1 hf
    refine lv_aload_n (pc := 9) hx hb dX8_turnGains_9 rfl (lv_at hl 0 rfl) ?_
    refine lv_aload_n (pc := 10) hx hb dX8_turnGains_10 rfl (lv_at hl 0 rfl) ?_
    refine lv_iload_n (pc := 11) hx hb dX8_turnGains_11 rfl (lv_at hl 1 rfl) ?_
    refine lv_iload (pc := 12) hx hb dX8_turnGains_12 (lv_at hl 4 rfl) ?_
    obtain ⟨r7, hq7, hf⟩ := bd_e hf
    refine x_vI (pc := 14) (As := [.int x1, .int x4]) (rest := [.ref a_t]) (isC := [0, 1]) (ws' := (w_X8_turnGains G a_t a_t_s a_t_image a_t_mind a_t_aside a_t_text a_t_read a_t_comes a_t_begins a_t_latest a_t_move a_t_sort a_t_items a_t_cell a_t_carried t_isKept t_work t_kind t_letters t_at t_fault t_back t_waits t_miles t_loads t_bestRound t_bestPlace t_bestAdds t_regret t_z t_s t_comes t_begins)) C S (c_X8_inRow l G a_t a_t_s a_t_image a_t_mind a_t_aside a_t_text a_t_read a_t_comes a_t_begins a_t_latest a_t_move a_t_sort a_t_items a_t_cell a_t_carried t_isKept t_work t_kind t_letters t_at t_fault t_back t_waits t_miles t_loads t_bestRound t_bestPlace t_bestAdds t_regret t_z t_s x1 x4 r7 hq7) (u_X8_turnGains_X8_inRow_63 hts) (ci := 8) rfl 0 rfl rfl (by decide +kernel) [some 0, some 1, none, none] (by decide +kernel) rfl rfl rfl hl.1 rfl (Nat.le_of_ble_eq_true rfl) dX8_turnGains_14 (fun H locs S => ?_)
    refine lv_bipush (pc := 17) hx hb dX8_turnGains_17 bc_6 ?_
    obtain ⟨r8, hq8, hf⟩ := bd_e hf
    refine x_vI (pc := 19) (As := [.int r7, .int (6 : Int32)]) (rest := []) (isC := [0, 1]) (ws' := (w_X8_turnGains G a_t a_t_s a_t_image a_t_mind a_t_aside a_t_text a_t_read a_t_comes a_t_begins a_t_latest a_t_move a_t_sort a_t_items a_t_cell a_t_carried t_isKept t_work t_kind t_letters t_at t_fault t_back t_waits t_miles t_loads t_bestRound t_bestPlace t_bestAdds t_regret t_z t_s t_comes t_begins)) C S (c_X8_stopAt l G a_t a_t_s a_t_image a_t_mind a_t_aside a_t_text a_t_read a_t_comes a_t_begins a_t_latest a_t_move a_t_sort a_t_items a_t_cell a_t_carried t_isKept t_work t_kind t_letters t_at t_fault t_back t_waits t_miles t_loads t_bestRound t_bestPlace t_bestAdds t_regret t_z t_s r7 (6 : Int32) r8 hq8) (u_X8_turnGains_X8_stopAt_78 hts) (ci := 8) rfl 0 rfl rfl (by decide +kernel) [some 0, some 1, none, none] (by decide +kernel) rfl rfl rfl hl.1 rfl (Nat.le_of_ble_eq_true rfl) dX8_turnGains_19 (fun H locs S => ?_)
    refine lv_iconst (pc := 22) hx hb dX8_turnGains_22 ic_1 ?_
    refine lv_icmp_ne (tgt := 29) (pc := 23) hx hb dX8_turnGains_23 (by decide) (fun c9 => ?_) (fun c9 => ?_)
    · have hf := ifn c9 hf
      refine lv_iinc (pc := 29) (v := (x4 + (1 : Int32))) (lv' := [(4, .int (x4 + (1 : Int32))), (0, .ref a_t), (1, .int x1), (2, .int x2), (3, .int x3)]) hx hb dX8_turnGains_29 hl (k := 4) rfl (congrArg (fun z => x4 + z) ic_1) (by decide) rfl (fun ls hl => ?_)
      refine lv_goto (tgt := 3) (pc := 32) hx hb dX8_turnGains_32 (by decide) ?_
      exact hk3 ((x4 + (1 : Int32)))  hf S (lv_sub hl [1, 2, 3, 4, 0] rfl)
    · have hf := ifp c9 hf
      refine lv_ldc (pc := 26) hx hb hown (hts _ qk_8_169) dX8_turnGains_26 ?_
      cases hf
      exact x_iret (pc := 28) C S dX8_turnGains_28
set_option maxRecDepth 100000 in
set_option maxHeartbeats 4000000 in
theorem h_X8_turnGains_3 (C : Cx p s m args meth c cX8_turnGains (some .int) 6 RX8 G A) (t_isKept : Int32) (t_work : Int32) (t_kind : Int32) (t_letters : Int32) (t_at : Int32) (t_fault : Int32) (t_back : Int32) (t_waits : Int32) (t_miles : Int32) (t_loads : Int32) (t_bestRound : Int32) (t_bestPlace : Int32) (t_bestAdds : Int32) (t_regret : Int32) (t_z : Int32) (t_s : Nat → Int32) (t_comes : Nat → Int32) (t_begins : Nat → Int32) (x1 : Int32) (x2 : Int32) (x3 : Int32) : ∀ (n : Nat) (x4 : Int32) {H : Heap} {locs : List Loc} {ls : Array Slot} (hf : lp (fun k x => b_X8_turnGains_3 x1 x2 x3 t_s t_comes t_begins t_back t_waits t_loads k x) n x4 = some (r, z_t_s, z_t_comes, z_t_begins, z_t_back, z_t_waits, z_t_loads)) (S : St G A s.heap H locs (w_X8_turnGains G a_t a_t_s a_t_image a_t_mind a_t_aside a_t_text a_t_read a_t_comes a_t_begins a_t_latest a_t_move a_t_sort a_t_items a_t_cell a_t_carried t_isKept t_work t_kind t_letters t_at t_fault t_back t_waits t_miles t_loads t_bestRound t_bestPlace t_bestAdds t_regret t_z t_s t_comes t_begins)) (hl : lv_has ls 6 [(0, .ref a_t), (1, .int x1), (2, .int x2), (3, .int x3), (4, .int x4)]), W p l e rm_X8_turnGains s m args below meth c H locs 0 0 (QI G below args s A r (w_X8_turnGains G a_t a_t_s a_t_image a_t_mind a_t_aside a_t_text a_t_read a_t_comes a_t_begins a_t_latest a_t_move a_t_sort a_t_items a_t_cell a_t_carried t_isKept t_work t_kind t_letters t_at t_fault z_t_back z_t_waits t_miles z_t_loads t_bestRound t_bestPlace t_bestAdds t_regret t_z z_t_s z_t_comes z_t_begins)) (F0 m 3 ls []) := by
  intro n
  induction n with
  | zero =>
    intro x4  H locs ls hf
    cases hf
  | succ n ih =>
    intro x4  H locs ls hf S hl
    have hf : b_X8_turnGains_3 x1 x2 x3 t_s t_comes t_begins t_back t_waits t_loads (lp (fun k x => b_X8_turnGains_3 x1 x2 x3 t_s t_comes t_begins t_back t_waits t_loads k x) n) x4 = some (r, z_t_s, z_t_comes, z_t_begins, z_t_back, z_t_waits, z_t_loads) := hf
    exact k_X8_turnGains_3 C t_isKept t_work t_kind t_letters t_at t_fault t_back t_waits t_miles t_loads t_bestRound t_bestPlace t_bestAdds t_regret t_z t_s t_comes t_begins x1 x2 x3 x4  (lp (fun k x => b_X8_turnGains_3 x1 x2 x3 t_s t_comes t_begins t_back t_waits t_loads k x) n) (fun x4'  h S hl => ih x4'  h S hl) hf S hl
set_option maxRecDepth 100000 in
set_option maxHeartbeats 4000000 in
theorem c_X8_turnGains (l : Launch) (G : GE) (a_t a_t_s a_t_image a_t_mind a_t_aside a_t_text a_t_read a_t_comes a_t_begins a_t_latest a_t_move a_t_sort a_t_items a_t_cell a_t_carried : Nat) (t_isKept : Int32) (t_work : Int32) (t_kind : Int32) (t_letters : Int32) (t_at : Int32) (t_fault : Int32) (t_back : Int32) (t_waits : Int32) (t_miles : Int32) (t_loads : Int32) (t_bestRound : Int32) (t_bestPlace : Int32) (t_bestAdds : Int32) (t_regret : Int32) (t_z : Int32) (t_s : Nat → Int32) (t_comes : Nat → Int32) (t_begins : Nat → Int32) (x1 : Int32) (x2 : Int32) (x3 : Int32) (r : Int32) (z_t_s : Nat → Int32) (z_t_comes : Nat → Int32) (z_t_begins : Nat → Int32) (z_t_back : Int32) (z_t_waits : Int32) (z_t_loads : Int32) (hf : f_X8_turnGains t_s t_comes t_begins t_back t_waits t_loads x1 x2 x3 = some (r, z_t_s, z_t_comes, z_t_begins, z_t_back, z_t_waits, z_t_loads)) : CI l G yX8_turnGains kw_X8_turnGains rm_X8_turnGains [.ref a_t, .int x1, .int x2, .int x3] (w_X8_turnGains G a_t a_t_s a_t_image a_t_mind a_t_aside a_t_text a_t_read a_t_comes a_t_begins a_t_latest a_t_move a_t_sort a_t_items a_t_cell a_t_carried t_isKept t_work t_kind t_letters t_at t_fault t_back t_waits t_miles t_loads t_bestRound t_bestPlace t_bestAdds t_regret t_z t_s t_comes t_begins) r (w_X8_turnGains G a_t a_t_s a_t_image a_t_mind a_t_aside a_t_text a_t_read a_t_comes a_t_begins a_t_latest a_t_move a_t_sort a_t_items a_t_cell a_t_carried t_isKept t_work t_kind t_letters t_at t_fault z_t_back z_t_waits t_miles z_t_loads t_bestRound t_bestPlace t_bestAdds t_regret t_z z_t_s z_t_comes z_t_begins) := by
  refine en_I (cc := cX8_turnGains) (maxL := 6) (ret := (some .int)) (by decide +kernel) (Nat.le_of_ble_eq_true rfl) ?_
  intro p e s m args below meth c A ls C S hl
  have hl : lv_has ls 6 [(0, .ref a_t), (1, .int x1), (2, .int x2), (3, .int x3)] := hl
  have C : Cx p s m args meth c cX8_turnGains (some .int) 6 RX8 G A := C
  unfold f_X8_turnGains at hf
  have hx := C.1
  have hb := C.2.1
  have hown := C.2.2.2.2.1
  have hts := C.2.2.2.2.2.1
  have hN := C.2.2.2.2.2.2.2.2.2.2
  refine lv_iload_n (pc := 0) hx hb dX8_turnGains_0 rfl (lv_at hl 2 rfl) ?_
  refine lv_istore (pc := 1) (lv' := [(4, .int x2), (0, .ref a_t), (1, .int x1), (2, .int x2), (3, .int x3)]) hx hb dX8_turnGains_1 hl (by decide) rfl (fun ls hl => ?_)
  exact h_X8_turnGains_3 C (t_isKept) (t_work) (t_kind) (t_letters) (t_at) (t_fault) (t_back) (t_waits) (t_miles) (t_loads) (t_bestRound) (t_bestPlace) (t_bestAdds) (t_regret) (t_z) (t_s) (t_comes) (t_begins) (x1) (x2) (x3) fu (x2) hf S (lv_sub hl [1, 2, 3, 4, 0] rfl)
end

abbrev rm_X8_finds : Room := { frames := 0, cells := 0, slots := 0, locals := 0 }
abbrev kw_X8_finds : Cond := .code yX8_finds cX8_finds 6 none
abbrev w_X8_finds (G : GE) (a_t a_t_s a_t_image a_t_mind a_t_aside a_t_text a_t_read a_t_comes a_t_begins a_t_latest a_t_move a_t_sort a_t_items a_t_cell a_t_carried : Nat) (t_isKept : Int32) (t_work : Int32) (t_kind : Int32) (t_letters : Int32) (t_at : Int32) (t_fault : Int32) (t_back : Int32) (t_waits : Int32) (t_miles : Int32) (t_loads : Int32) (t_bestRound : Int32) (t_bestPlace : Int32) (t_bestAdds : Int32) (t_regret : Int32) (t_z : Int32) (t_move : Nat → Int32) : va_W := [(a_t, ob 8 [.ref a_t_s, .ref a_t_image, .ref a_t_mind, .ref a_t_aside, .int t_isKept, .int t_work, .int t_kind, .ref a_t_text, .ref a_t_read, .int t_letters, .int t_at, .int t_fault, .ref a_t_comes, .ref a_t_begins, .ref a_t_latest, .int t_back, .int t_waits, .int t_miles, .int t_loads, .int t_bestRound, .int t_bestPlace, .int t_bestAdds, .int t_regret, .ref a_t_move, .ref a_t_sort, .ref a_t_items, .ref a_t_cell, .ref a_t_carried, .int t_z]), (a_t_move, aI G 5 t_move)]
section
variable {p : Program} {l : Launch} {e : Env} {s : State} {m : MethodId} {args : Array Value} {below : List Frame} {meth : Method} {c : Code} {A : Nat → Prop} {G : GE} {a_t a_t_s a_t_image a_t_mind a_t_aside a_t_text a_t_read a_t_comes a_t_begins a_t_latest a_t_move a_t_sort a_t_items a_t_cell a_t_carried : Nat} {z_t_move : Nat → Int32}
set_option maxRecDepth 100000 in
set_option maxHeartbeats 4000000 in
theorem c_X8_finds (l : Launch) (G : GE) (a_t a_t_s a_t_image a_t_mind a_t_aside a_t_text a_t_read a_t_comes a_t_begins a_t_latest a_t_move a_t_sort a_t_items a_t_cell a_t_carried : Nat) (t_isKept : Int32) (t_work : Int32) (t_kind : Int32) (t_letters : Int32) (t_at : Int32) (t_fault : Int32) (t_back : Int32) (t_waits : Int32) (t_miles : Int32) (t_loads : Int32) (t_bestRound : Int32) (t_bestPlace : Int32) (t_bestAdds : Int32) (t_regret : Int32) (t_z : Int32) (t_move : Nat → Int32) (x1 : Int32) (x2 : Int32) (x3 : Int32) (x4 : Int32) (x5 : Int32) (z_t_move : Nat → Int32) (hf : f_X8_finds t_move x1 x2 x3 x4 x5 = some z_t_move) : CV l G yX8_finds kw_X8_finds rm_X8_finds [.ref a_t, .int x1, .int x2, .int x3, .int x4, .int x5] (w_X8_finds G a_t a_t_s a_t_image a_t_mind a_t_aside a_t_text a_t_read a_t_comes a_t_begins a_t_latest a_t_move a_t_sort a_t_items a_t_cell a_t_carried t_isKept t_work t_kind t_letters t_at t_fault t_back t_waits t_miles t_loads t_bestRound t_bestPlace t_bestAdds t_regret t_z t_move) (w_X8_finds G a_t a_t_s a_t_image a_t_mind a_t_aside a_t_text a_t_read a_t_comes a_t_begins a_t_latest a_t_move a_t_sort a_t_items a_t_cell a_t_carried t_isKept t_work t_kind t_letters t_at t_fault t_back t_waits t_miles t_loads t_bestRound t_bestPlace t_bestAdds t_regret t_z z_t_move) := by
  refine en_V (cc := cX8_finds) (maxL := 6) (ret := none) (by decide +kernel) (Nat.le_of_ble_eq_true rfl) ?_
  intro p e s m args below meth c A ls C S hl
  have hl : lv_has ls 6 [(0, .ref a_t), (1, .int x1), (2, .int x2), (3, .int x3), (4, .int x4), (5, .int x5)] := hl
  have C : Cx p s m args meth c cX8_finds none 6 RX8 G A := C
  unfold f_X8_finds at hf
  have hx := C.1
  have hb := C.2.1
  have hown := C.2.2.2.2.1
  have hts := C.2.2.2.2.2.1
  have hN := C.2.2.2.2.2.2.2.2.2.2
  refine lv_iload_n (pc := 0) hx hb dX8_finds_0 rfl (lv_at hl 2 rfl) ?_
  refine lv_aload_n (pc := 1) hx hb dX8_finds_1 rfl (lv_at hl 0 rfl) ?_
  refine x_get (pc := 2) (ci := 8) (T := TX8) (v := .ref a_t_move) C S 0 rfl rfl inlX8 23 (by decide) rfl qf_8_39 rfl dX8_finds_2 ?_
  refine lv_iconst (pc := 5) hx hb dX8_finds_5 ic_1 ?_
  refine x_iald (pc := 6) C S 1 rfl (vp_in_iff.mpr (by decide)) dX8_finds_6 ?_
  refine lv_icmp_gt (tgt := 11) (pc := 7) hx hb dX8_finds_7 (by decide) (fun c1 => ?_) (fun c1 => ?_)
  · have hf := ifp c1 hf
    refine lv_aload_n (pc := 11) hx hb dX8_finds_11 rfl (lv_at hl 0 rfl) ?_
    refine x_get (pc := 12) (ci := 8) (T := TX8) (v := .ref a_t_move) C S 0 rfl rfl inlX8 23 (by decide) rfl qf_8_39 rfl dX8_finds_12 ?_
    refine lv_iconst (pc := 15) hx hb dX8_finds_15 ic_0 ?_
    refine lv_iload_n (pc := 16) hx hb dX8_finds_16 rfl (lv_at hl 1 rfl) ?_
    refine x_iast (pc := 17) (ws' := (w_X8_finds G a_t a_t_s a_t_image a_t_mind a_t_aside a_t_text a_t_read a_t_comes a_t_begins a_t_latest a_t_move a_t_sort a_t_items a_t_cell a_t_carried t_isKept t_work t_kind t_letters t_at t_fault t_back t_waits t_miles t_loads t_bestRound t_bestPlace t_bestAdds t_regret t_z (upd t_move (0 : Int32).toNatClampNeg x1))) C S 1 rfl (vp_in_iff.mpr (by decide)) rfl dX8_finds_17 (fun H locs S => ?_)
    refine lv_aload_n (pc := 18) hx hb dX8_finds_18 rfl (lv_at hl 0 rfl) ?_
    refine x_get (pc := 19) (ci := 8) (T := TX8) (v := .ref a_t_move) C S 0 rfl rfl inlX8 23 (by decide) rfl qf_8_39 rfl dX8_finds_19 ?_
    refine lv_iconst (pc := 22) hx hb dX8_finds_22 ic_1 ?_
    refine lv_iload_n (pc := 23) hx hb dX8_finds_23 rfl (lv_at hl 2 rfl) ?_
    refine x_iast (pc := 24) (ws' := (w_X8_finds G a_t a_t_s a_t_image a_t_mind a_t_aside a_t_text a_t_read a_t_comes a_t_begins a_t_latest a_t_move a_t_sort a_t_items a_t_cell a_t_carried t_isKept t_work t_kind t_letters t_at t_fault t_back t_waits t_miles t_loads t_bestRound t_bestPlace t_bestAdds t_regret t_z (upd (upd t_move (0 : Int32).toNatClampNeg x1) (1 : Int32).toNatClampNeg x2))) C S 1 rfl (vp_in_iff.mpr (by decide)) rfl dX8_finds_24 (fun H locs S => ?_)
    refine lv_aload_n (pc := 25) hx hb dX8_finds_25 rfl (lv_at hl 0 rfl) ?_
    refine x_get (pc := 26) (ci := 8) (T := TX8) (v := .ref a_t_move) C S 0 rfl rfl inlX8 23 (by decide) rfl qf_8_39 rfl dX8_finds_26 ?_
    refine lv_iconst (pc := 29) hx hb dX8_finds_29 ic_2 ?_
    refine lv_iload_n (pc := 30) hx hb dX8_finds_30 rfl (lv_at hl 3 rfl) ?_
    refine x_iast (pc := 31) (ws' := (w_X8_finds G a_t a_t_s a_t_image a_t_mind a_t_aside a_t_text a_t_read a_t_comes a_t_begins a_t_latest a_t_move a_t_sort a_t_items a_t_cell a_t_carried t_isKept t_work t_kind t_letters t_at t_fault t_back t_waits t_miles t_loads t_bestRound t_bestPlace t_bestAdds t_regret t_z (upd (upd (upd t_move (0 : Int32).toNatClampNeg x1) (1 : Int32).toNatClampNeg x2) (2 : Int32).toNatClampNeg x3))) C S 1 rfl (vp_in_iff.mpr (by decide)) rfl dX8_finds_31 (fun H locs S => ?_)
    refine lv_aload_n (pc := 32) hx hb dX8_finds_32 rfl (lv_at hl 0 rfl) ?_
    refine x_get (pc := 33) (ci := 8) (T := TX8) (v := .ref a_t_move) C S 0 rfl rfl inlX8 23 (by decide) rfl qf_8_39 rfl dX8_finds_33 ?_
    refine lv_iconst (pc := 36) hx hb dX8_finds_36 ic_3 ?_
    refine lv_iload (pc := 37) hx hb dX8_finds_37 (lv_at hl 4 rfl) ?_
    refine x_iast (pc := 39) (ws' := (w_X8_finds G a_t a_t_s a_t_image a_t_mind a_t_aside a_t_text a_t_read a_t_comes a_t_begins a_t_latest a_t_move a_t_sort a_t_items a_t_cell a_t_carried t_isKept t_work t_kind t_letters t_at t_fault t_back t_waits t_miles t_loads t_bestRound t_bestPlace t_bestAdds t_regret t_z (upd (upd (upd (upd t_move (0 : Int32).toNatClampNeg x1) (1 : Int32).toNatClampNeg x2) (2 : Int32).toNatClampNeg x3) (3 : Int32).toNatClampNeg x4))) C S 1 rfl (vp_in_iff.mpr (by decide)) rfl dX8_finds_39 (fun H locs S => ?_)
    refine lv_aload_n (pc := 40) hx hb dX8_finds_40 rfl (lv_at hl 0 rfl) ?_
    refine x_get (pc := 41) (ci := 8) (T := TX8) (v := .ref a_t_move) C S 0 rfl rfl inlX8 23 (by decide) rfl qf_8_39 rfl dX8_finds_41 ?_
    refine lv_iconst (pc := 44) hx hb dX8_finds_44 ic_4 ?_
    refine lv_iload (pc := 45) hx hb dX8_finds_45 (lv_at hl 5 rfl) ?_
    refine x_iast (pc := 47) (ws' := (w_X8_finds G a_t a_t_s a_t_image a_t_mind a_t_aside a_t_text a_t_read a_t_comes a_t_begins a_t_latest a_t_move a_t_sort a_t_items a_t_cell a_t_carried t_isKept t_work t_kind t_letters t_at t_fault t_back t_waits t_miles t_loads t_bestRound t_bestPlace t_bestAdds t_regret t_z (upd (upd (upd (upd (upd t_move (0 : Int32).toNatClampNeg x1) (1 : Int32).toNatClampNeg x2) (2 : Int32).toNatClampNeg x3) (3 : Int32).toNatClampNeg x4) (4 : Int32).toNatClampNeg x5))) C S 1 rfl (vp_in_iff.mpr (by decide)) rfl dX8_finds_47 (fun H locs S => ?_)
    cases hf
    exact x_vret (pc := 48) C S dX8_finds_48
  · have hf := ifn c1 hf
    cases hf
    exact x_vret (pc := 10) C S dX8_finds_10
end

abbrev rm_X8_cost : Room := { frames := 4, cells := 0, slots := 0, locals := 96 }
abbrev kw_X8_cost : Cond := .code yX8_cost cX8_cost 3 (some .int)
abbrev w_X8_cost (G : GE) (a_t a_t_s a_t_image a_t_mind a_t_aside a_t_text a_t_read a_t_comes a_t_begins a_t_latest a_t_move a_t_sort a_t_items a_t_cell a_t_carried : Nat) (t_isKept : Int32) (t_work : Int32) (t_kind : Int32) (t_letters : Int32) (t_at : Int32) (t_fault : Int32) (t_back : Int32) (t_waits : Int32) (t_miles : Int32) (t_loads : Int32) (t_bestRound : Int32) (t_bestPlace : Int32) (t_bestAdds : Int32) (t_regret : Int32) (t_z : Int32) (t_s : Nat → Int32) : va_W := [(a_t, ob 8 [.ref a_t_s, .ref a_t_image, .ref a_t_mind, .ref a_t_aside, .int t_isKept, .int t_work, .int t_kind, .ref a_t_text, .ref a_t_read, .int t_letters, .int t_at, .int t_fault, .ref a_t_comes, .ref a_t_begins, .ref a_t_latest, .int t_back, .int t_waits, .int t_miles, .int t_loads, .int t_bestRound, .int t_bestPlace, .int t_bestAdds, .int t_regret, .ref a_t_move, .ref a_t_sort, .ref a_t_items, .ref a_t_cell, .ref a_t_carried, .int t_z]), (a_t_s, aI G 258 t_s)]
theorem u_X8_cost_X8_milesOf_111 {s : State} {args : Array Value} (hts : ∀ w ∈ WU, w.before args s = true) : CallW rm_X8_cost s args RX8 RX8 111 yX8_milesOf cX8_milesOf 5 (some .int) (kw_X8_milesOf :: WU) rm_X8_milesOf 0 0 1 := cwV 1 hts (gV qm_8_111 qi_X8_milesOf ql_X8_milesOf qn_8 qc_X8_milesOf) rfl rfl rfl (by decide +kernel) ⟨Nat.le_of_ble_eq_true rfl, Nat.le_of_ble_eq_true rfl⟩
theorem u_X8_cost_X8_roundAt_59 {s : State} {args : Array Value} (hts : ∀ w ∈ WU, w.before args s = true) : CallW rm_X8_cost s args RX8 RX8 59 yX8_roundAt cX8_roundAt 3 (some .int) (kw_X8_roundAt :: WU) rm_X8_roundAt 0 0 2 := cwV 2 hts (gV qm_8_59 qi_X8_roundAt ql_X8_roundAt qn_8 qc_X8_roundAt) rfl rfl rfl (by decide +kernel) ⟨Nat.le_of_ble_eq_true rfl, Nat.le_of_ble_eq_true rfl⟩
section
variable {p : Program} {l : Launch} {e : Env} {s : State} {m : MethodId} {args : Array Value} {below : List Frame} {meth : Method} {c : Code} {A : Nat → Prop} {G : GE} {a_t a_t_s a_t_image a_t_mind a_t_aside a_t_text a_t_read a_t_comes a_t_begins a_t_latest a_t_move a_t_sort a_t_items a_t_cell a_t_carried : Nat} {r : Int32}
set_option maxRecDepth 100000 in
set_option maxHeartbeats 4000000 in
theorem k_X8_cost_4 (C : Cx p s m args meth c cX8_cost (some .int) 3 RX8 G A) (t_isKept : Int32) (t_work : Int32) (t_kind : Int32) (t_letters : Int32) (t_at : Int32) (t_fault : Int32) (t_back : Int32) (t_waits : Int32) (t_miles : Int32) (t_loads : Int32) (t_bestRound : Int32) (t_bestPlace : Int32) (t_bestAdds : Int32) (t_regret : Int32) (t_z : Int32) (t_s : Nat → Int32) (x1 : Int32) (x2 : Int32) (k4 : Int32 × Int32 → Option (Int32)) (hk4 : ∀ {H : Heap} {locs : List Loc} {ls : Array Slot} (x1' : Int32) (x2' : Int32), k4 (x1', x2') = some r → St G A s.heap H locs (w_X8_cost G a_t a_t_s a_t_image a_t_mind a_t_aside a_t_text a_t_read a_t_comes a_t_begins a_t_latest a_t_move a_t_sort a_t_items a_t_cell a_t_carried t_isKept t_work t_kind t_letters t_at t_fault t_back t_waits t_miles t_loads t_bestRound t_bestPlace t_bestAdds t_regret t_z t_s) → lv_has ls 3 [(0, .ref a_t), (1, .int x1'), (2, .int x2')] → W p l e rm_X8_cost s m args below meth c H locs 0 0 (QI G below args s A r (w_X8_cost G a_t a_t_s a_t_image a_t_mind a_t_aside a_t_text a_t_read a_t_comes a_t_begins a_t_latest a_t_move a_t_sort a_t_items a_t_cell a_t_carried t_isKept t_work t_kind t_letters t_at t_fault t_back t_waits t_miles t_loads t_bestRound t_bestPlace t_bestAdds t_regret t_z t_s)) (F0 m 4 ls [])) {H : Heap} {locs : List Loc} {ls : Array Slot} (hf : b_X8_cost_4 t_s k4 x1 x2 = some r) (S : St G A s.heap H locs (w_X8_cost G a_t a_t_s a_t_image a_t_mind a_t_aside a_t_text a_t_read a_t_comes a_t_begins a_t_latest a_t_move a_t_sort a_t_items a_t_cell a_t_carried t_isKept t_work t_kind t_letters t_at t_fault t_back t_waits t_miles t_loads t_bestRound t_bestPlace t_bestAdds t_regret t_z t_s)) (hl : lv_has ls 3 [(0, .ref a_t), (1, .int x1), (2, .int x2)]) : W p l e rm_X8_cost s m args below meth c H locs 0 0 (QI G below args s A r (w_X8_cost G a_t a_t_s a_t_image a_t_mind a_t_aside a_t_text a_t_read a_t_comes a_t_begins a_t_latest a_t_move a_t_sort a_t_items a_t_cell a_t_carried t_isKept t_work t_kind t_letters t_at t_fault t_back t_waits t_miles t_loads t_bestRound t_bestPlace t_bestAdds t_regret t_z t_s)) (F0 m 4 ls []) := by
  unfold b_X8_cost_4 at hf
  have hx := C.1
  have hb := C.2.1
  have hown := C.2.2.2.2.1
  have hts := C.2.2.2.2.2.1
  have hN := C.2.2.2.2.2.2.2.2.2.2
  refine lv_iload_n (pc := 4) hx hb dX8_cost_4 rfl (lv_at hl 2 rfl) ?_
  refine lv_iconst (pc := 5) hx hb dX8_cost_5 ic_4 ?_
  refine lv_icmp_ge (tgt := 43) (pc := 6) hx hb dX8_cost_6 (by decide) (fun c1 => ?_) (fun c1 => ?_)
  · have hf := ifp c1 hf
    refine lv_iload_n (pc := 43) hx hb dX8_cost_43 rfl (lv_at hl 1 rfl) ?_
    cases hf
    exact x_iret (pc := 44) C S dX8_cost_44
  · have hf := ifn c1 hf
    refine lv_iload_n (pc := 9) hx hb dX8_cost_9 rfl (lv_at hl 1 rfl) ?_
    refine lv_aload_n (pc := 10) hx hb dX8_cost_10 rfl (lv_at hl 0 rfl) ?_
    refine lv_iload_n (pc := 11) hx hb dX8_cost_11 rfl (lv_at hl 2 rfl) ?_
    obtain ⟨r2, hq2, hf⟩ := bd_e hf
    refine x_vI (pc := 12) (As := [.int x2]) (rest := [.int x1]) (isC := [0, 1]) (ws' := (w_X8_cost G a_t a_t_s a_t_image a_t_mind a_t_aside a_t_text a_t_read a_t_comes a_t_begins a_t_latest a_t_move a_t_sort a_t_items a_t_cell a_t_carried t_isKept t_work t_kind t_letters t_at t_fault t_back t_waits t_miles t_loads t_bestRound t_bestPlace t_bestAdds t_regret t_z t_s)) C S (c_X8_milesOf l G a_t a_t_s a_t_image a_t_mind a_t_aside a_t_text a_t_read a_t_comes a_t_begins a_t_latest a_t_move a_t_sort a_t_items a_t_cell a_t_carried t_isKept t_work t_kind t_letters t_at t_fault t_back t_waits t_miles t_loads t_bestRound t_bestPlace t_bestAdds t_regret t_z t_s x2 r2 hq2) (u_X8_cost_X8_milesOf_111 hts) (ci := 8) rfl 0 rfl rfl (by decide +kernel) [some 0, some 1] (by decide +kernel) rfl rfl rfl hl.1 rfl (Nat.le_of_ble_eq_true rfl) dX8_cost_12 (fun H locs S => ?_)
    refine lv_aload_n (pc := 15) hx hb dX8_cost_15 rfl (lv_at hl 0 rfl) ?_
    refine lv_iload_n (pc := 16) hx hb dX8_cost_16 rfl (lv_at hl 2 rfl) ?_
    refine lv_iconst (pc := 17) hx hb dX8_cost_17 ic_3 ?_
    obtain ⟨r3, hq3, hf⟩ := bd_e hf
    refine x_vI (pc := 18) (As := [.int x2, .int (3 : Int32)]) (rest := [.int r2, .int x1]) (isC := [0, 1]) (ws' := (w_X8_cost G a_t a_t_s a_t_image a_t_mind a_t_aside a_t_text a_t_read a_t_comes a_t_begins a_t_latest a_t_move a_t_sort a_t_items a_t_cell a_t_carried t_isKept t_work t_kind t_letters t_at t_fault t_back t_waits t_miles t_loads t_bestRound t_bestPlace t_bestAdds t_regret t_z t_s)) C S (c_X8_roundAt l G a_t a_t_s a_t_image a_t_mind a_t_aside a_t_text a_t_read a_t_comes a_t_begins a_t_latest a_t_move a_t_sort a_t_items a_t_cell a_t_carried t_isKept t_work t_kind t_letters t_at t_fault t_back t_waits t_miles t_loads t_bestRound t_bestPlace t_bestAdds t_regret t_z t_s x2 (3 : Int32) r3 hq3) (u_X8_cost_X8_roundAt_59 hts) (ci := 8) rfl 0 rfl rfl (by decide +kernel) [some 0, some 1] (by decide +kernel) rfl rfl rfl hl.1 rfl (Nat.le_of_ble_eq_true rfl) dX8_cost_18 (fun H locs S => ?_)
    refine lv_if_le (tgt := 33) (pc := 21) hx hb dX8_cost_21 (by decide) (fun c4 => ?_) (fun c4 => ?_)
    · have hf := ifp c4 hf
      refine lv_iconst (pc := 33) hx hb dX8_cost_33 ic_0 ?_
      refine lv_iadd (pc := 34) hx hb dX8_cost_34 ?_
      refine lv_iadd (pc := 35) hx hb dX8_cost_35 ?_
      refine lv_istore_n (pc := 36) (lv' := [(1, .int (x1 + (r2 + (0 : Int32)))), (0, .ref a_t), (2, .int x2)]) hx hb dX8_cost_36 rfl hl (by decide) rfl (fun ls hl => ?_)
      refine lv_iinc (pc := 37) (v := (x2 + (1 : Int32))) (lv' := [(2, .int (x2 + (1 : Int32))), (1, .int (x1 + (r2 + (0 : Int32)))), (0, .ref a_t)]) hx hb dX8_cost_37 hl (k := 2) rfl (congrArg (fun z => x2 + z) ic_1) (by decide) rfl (fun ls hl => ?_)
      refine lv_goto (tgt := 4) (pc := 40) hx hb dX8_cost_40 (by decide) ?_
      exact hk4 ((x1 + (r2 + (0 : Int32)))) ((x2 + (1 : Int32)))  hf S (lv_sub hl [2, 1, 0] rfl)
    · have hf := ifn c4 hf
      refine lv_aload_n (pc := 24) hx hb dX8_cost_24 rfl (lv_at hl 0 rfl) ?_
      refine x_get (pc := 25) (ci := 8) (T := TX8) (v := .ref a_t_s) C S 0 rfl rfl inlX8 0 (by decide) rfl qf_8_11 rfl dX8_cost_25 ?_
      refine lv_iconst (pc := 28) hx hb dX8_cost_28 ic_3 ?_
      refine x_iald (pc := 29) C S 1 rfl (vp_in_iff.mpr (by decide)) dX8_cost_29 ?_
      refine lv_goto (tgt := 34) (pc := 30) hx hb dX8_cost_30 (by decide) ?_
      refine lv_iadd (pc := 34) hx hb dX8_cost_34 ?_
      refine lv_iadd (pc := 35) hx hb dX8_cost_35 ?_
      refine lv_istore_n (pc := 36) (lv' := [(1, .int (x1 + (r2 + (t_s (3 : Int32).toNatClampNeg)))), (0, .ref a_t), (2, .int x2)]) hx hb dX8_cost_36 rfl hl (by decide) rfl (fun ls hl => ?_)
      refine lv_iinc (pc := 37) (v := (x2 + (1 : Int32))) (lv' := [(2, .int (x2 + (1 : Int32))), (1, .int (x1 + (r2 + (t_s (3 : Int32).toNatClampNeg)))), (0, .ref a_t)]) hx hb dX8_cost_37 hl (k := 2) rfl (congrArg (fun z => x2 + z) ic_1) (by decide) rfl (fun ls hl => ?_)
      refine lv_goto (tgt := 4) (pc := 40) hx hb dX8_cost_40 (by decide) ?_
      exact hk4 ((x1 + (r2 + (t_s (3 : Int32).toNatClampNeg)))) ((x2 + (1 : Int32)))  hf S (lv_sub hl [2, 1, 0] rfl)
set_option maxRecDepth 100000 in
set_option maxHeartbeats 4000000 in
theorem h_X8_cost_4 (C : Cx p s m args meth c cX8_cost (some .int) 3 RX8 G A) (t_isKept : Int32) (t_work : Int32) (t_kind : Int32) (t_letters : Int32) (t_at : Int32) (t_fault : Int32) (t_back : Int32) (t_waits : Int32) (t_miles : Int32) (t_loads : Int32) (t_bestRound : Int32) (t_bestPlace : Int32) (t_bestAdds : Int32) (t_regret : Int32) (t_z : Int32) (t_s : Nat → Int32) : ∀ (n : Nat) (x1 : Int32) (x2 : Int32) {H : Heap} {locs : List Loc} {ls : Array Slot} (hf : lp (fun k x => b_X8_cost_4 t_s k x.1 x.2) n (x1, x2) = some r) (S : St G A s.heap H locs (w_X8_cost G a_t a_t_s a_t_image a_t_mind a_t_aside a_t_text a_t_read a_t_comes a_t_begins a_t_latest a_t_move a_t_sort a_t_items a_t_cell a_t_carried t_isKept t_work t_kind t_letters t_at t_fault t_back t_waits t_miles t_loads t_bestRound t_bestPlace t_bestAdds t_regret t_z t_s)) (hl : lv_has ls 3 [(0, .ref a_t), (1, .int x1), (2, .int x2)]), W p l e rm_X8_cost s m args below meth c H locs 0 0 (QI G below args s A r (w_X8_cost G a_t a_t_s a_t_image a_t_mind a_t_aside a_t_text a_t_read a_t_comes a_t_begins a_t_latest a_t_move a_t_sort a_t_items a_t_cell a_t_carried t_isKept t_work t_kind t_letters t_at t_fault t_back t_waits t_miles t_loads t_bestRound t_bestPlace t_bestAdds t_regret t_z t_s)) (F0 m 4 ls []) := by
  intro n
  induction n with
  | zero =>
    intro x1 x2  H locs ls hf
    cases hf
  | succ n ih =>
    intro x1 x2  H locs ls hf S hl
    have hf : b_X8_cost_4 t_s (lp (fun k x => b_X8_cost_4 t_s k x.1 x.2) n) x1 x2 = some r := hf
    exact k_X8_cost_4 C t_isKept t_work t_kind t_letters t_at t_fault t_back t_waits t_miles t_loads t_bestRound t_bestPlace t_bestAdds t_regret t_z t_s x1 x2  (lp (fun k x => b_X8_cost_4 t_s k x.1 x.2) n) (fun x1' x2'  h S hl => ih x1' x2'  h S hl) hf S hl
set_option maxRecDepth 100000 in
set_option maxHeartbeats 4000000 in
theorem c_X8_cost (l : Launch) (G : GE) (a_t a_t_s a_t_image a_t_mind a_t_aside a_t_text a_t_read a_t_comes a_t_begins a_t_latest a_t_move a_t_sort a_t_items a_t_cell a_t_carried : Nat) (t_isKept : Int32) (t_work : Int32) (t_kind : Int32) (t_letters : Int32) (t_at : Int32) (t_fault : Int32) (t_back : Int32) (t_waits : Int32) (t_miles : Int32) (t_loads : Int32) (t_bestRound : Int32) (t_bestPlace : Int32) (t_bestAdds : Int32) (t_regret : Int32) (t_z : Int32) (t_s : Nat → Int32) (r : Int32) (hf : f_X8_cost t_s = some r) : CI l G yX8_cost kw_X8_cost rm_X8_cost [.ref a_t] (w_X8_cost G a_t a_t_s a_t_image a_t_mind a_t_aside a_t_text a_t_read a_t_comes a_t_begins a_t_latest a_t_move a_t_sort a_t_items a_t_cell a_t_carried t_isKept t_work t_kind t_letters t_at t_fault t_back t_waits t_miles t_loads t_bestRound t_bestPlace t_bestAdds t_regret t_z t_s) r (w_X8_cost G a_t a_t_s a_t_image a_t_mind a_t_aside a_t_text a_t_read a_t_comes a_t_begins a_t_latest a_t_move a_t_sort a_t_items a_t_cell a_t_carried t_isKept t_work t_kind t_letters t_at t_fault t_back t_waits t_miles t_loads t_bestRound t_bestPlace t_bestAdds t_regret t_z t_s) := by
  refine en_I (cc := cX8_cost) (maxL := 3) (ret := (some .int)) (by decide +kernel) (Nat.le_of_ble_eq_true rfl) ?_
  intro p e s m args below meth c A ls C S hl
  have hl : lv_has ls 3 [(0, .ref a_t)] := hl
  have C : Cx p s m args meth c cX8_cost (some .int) 3 RX8 G A := C
  unfold f_X8_cost at hf
  have hx := C.1
  have hb := C.2.1
  have hown := C.2.2.2.2.1
  have hts := C.2.2.2.2.2.1
  have hN := C.2.2.2.2.2.2.2.2.2.2
  refine lv_iconst (pc := 0) hx hb dX8_cost_0 ic_0 ?_
  refine lv_istore_n (pc := 1) (lv' := [(1, .int (0 : Int32)), (0, .ref a_t)]) hx hb dX8_cost_1 rfl hl (by decide) rfl (fun ls hl => ?_)
  refine lv_iconst (pc := 2) hx hb dX8_cost_2 ic_0 ?_
  refine lv_istore_n (pc := 3) (lv' := [(2, .int (0 : Int32)), (1, .int (0 : Int32)), (0, .ref a_t)]) hx hb dX8_cost_3 rfl hl (by decide) rfl (fun ls hl => ?_)
  exact h_X8_cost_4 C (t_isKept) (t_work) (t_kind) (t_letters) (t_at) (t_fault) (t_back) (t_waits) (t_miles) (t_loads) (t_bestRound) (t_bestPlace) (t_bestAdds) (t_regret) (t_z) (t_s) fu ((0 : Int32)) ((0 : Int32)) hf S (lv_sub hl [2, 1, 0] rfl)
end

abbrev rm_X8_shiftGains : Room := { frames := 5, cells := 0, slots := 0, locals := 120 }
abbrev kw_X8_shiftGains : Cond := .code yX8_shiftGains cX8_shiftGains 8 (some .int)
abbrev w_X8_shiftGains (G : GE) (a_t a_t_s a_t_image a_t_mind a_t_aside a_t_text a_t_read a_t_comes a_t_begins a_t_latest a_t_move a_t_sort a_t_items a_t_cell a_t_carried : Nat) (t_isKept : Int32) (t_work : Int32) (t_kind : Int32) (t_letters : Int32) (t_at : Int32) (t_fault : Int32) (t_back : Int32) (t_waits : Int32) (t_miles : Int32) (t_loads : Int32) (t_bestRound : Int32) (t_bestPlace : Int32) (t_bestAdds : Int32) (t_regret : Int32) (t_z : Int32) (t_s : Nat → Int32) (t_comes : Nat → Int32) (t_begins : Nat → Int32) : va_W := [(a_t, ob 8 [.ref a_t_s, .ref a_t_image, .ref a_t_mind, .ref a_t_aside, .int t_isKept, .int t_work, .int t_kind, .ref a_t_text, .ref a_t_read, .int t_letters, .int t_at, .int t_fault, .ref a_t_comes, .ref a_t_begins, .ref a_t_latest, .int t_back, .int t_waits, .int t_miles, .int t_loads, .int t_bestRound, .int t_bestPlace, .int t_bestAdds, .int t_regret, .ref a_t_move, .ref a_t_sort, .ref a_t_items, .ref a_t_cell, .ref a_t_carried, .int t_z]), (a_t_s, aI G 258 t_s), (a_t_comes, aI G 16 t_comes), (a_t_begins, aI G 16 t_begins)]
theorem u_X8_shiftGains_X8_stopAt_78 {s : State} {args : Array Value} (hts : ∀ w ∈ WU, w.before args s = true) : CallW rm_X8_shiftGains s args RX8 RX8 78 yX8_stopAt cX8_stopAt 3 (some .int) (kw_X8_stopAt :: WU) rm_X8_stopAt 0 0 2 := cwV 2 hts (gV qm_8_78 qi_X8_stopAt ql_X8_stopAt qn_8 qc_X8_stopAt) rfl rfl rfl (by decide +kernel) ⟨Nat.le_of_ble_eq_true rfl, Nat.le_of_ble_eq_true rfl⟩
theorem u_X8_shiftGains_X8_roundOf_157 {s : State} {args : Array Value} (hts : ∀ w ∈ WU, w.before args s = true) : CallW rm_X8_shiftGains s args RX8 RX8 157 yX8_roundOf cX8_roundOf 3 (some .int) (kw_X8_roundOf :: WU) rm_X8_roundOf 0 0 1 := cwV 1 hts (gV qm_8_157 qi_X8_roundOf ql_X8_roundOf qn_8 qc_X8_roundOf) rfl rfl rfl (by decide +kernel) ⟨Nat.le_of_ble_eq_true rfl, Nat.le_of_ble_eq_true rfl⟩
theorem u_X8_shiftGains_X8_placeIn_66 {s : State} {args : Array Value} (hts : ∀ w ∈ WU, w.before args s = true) : CallW rm_X8_shiftGains s args RX8 RX8 66 yX8_placeIn cX8_placeIn 4 (some .int) (kw_X8_placeIn :: WU) rm_X8_placeIn 0 0 2 := cwV 2 hts (gV qm_8_66 qi_X8_placeIn ql_X8_placeIn qn_8 qc_X8_placeIn) rfl rfl rfl (by decide +kernel) ⟨Nat.le_of_ble_eq_true rfl, Nat.le_of_ble_eq_true rfl⟩
theorem u_X8_shiftGains_X8_cost_177 {s : State} {args : Array Value} (hts : ∀ w ∈ WU, w.before args s = true) : CallW rm_X8_shiftGains s args RX8 RX8 177 yX8_cost cX8_cost 3 (some .int) (kw_X8_cost :: WU) rm_X8_cost 0 0 0 := cwV 0 hts (gV qm_8_177 qi_X8_cost ql_X8_cost qn_8 qc_X8_cost) rfl rfl rfl (by decide +kernel) ⟨Nat.le_of_ble_eq_true rfl, Nat.le_of_ble_eq_true rfl⟩
theorem u_X8_shiftGains_X8_removes_170 {s : State} {args : Array Value} (hts : ∀ w ∈ WU, w.before args s = true) : CallW rm_X8_shiftGains s args RX8 RX8 170 yX8_removes cX8_removes 5 none (kw_X8_removes :: WU) rm_X8_removes 0 0 2 := cwV 2 hts (gV qm_8_170 qi_X8_removes ql_X8_removes qn_8 qc_X8_removes) rfl rfl rfl (by decide +kernel) ⟨Nat.le_of_ble_eq_true rfl, Nat.le_of_ble_eq_true rfl⟩
theorem u_X8_shiftGains_X8_inserts_165 {s : State} {args : Array Value} (hts : ∀ w ∈ WU, w.before args s = true) : CallW rm_X8_shiftGains s args RX8 RX8 165 yX8_inserts cX8_inserts 6 none (kw_X8_inserts :: WU) rm_X8_inserts 0 0 3 := cwV 3 hts (gV qm_8_165 qi_X8_inserts ql_X8_inserts qn_8 qc_X8_inserts) rfl rfl rfl (by decide +kernel) ⟨Nat.le_of_ble_eq_true rfl, Nat.le_of_ble_eq_true rfl⟩
theorem u_X8_shiftGains_X8_holds_104 {s : State} {args : Array Value} (hts : ∀ w ∈ WU, w.before args s = true) : CallW rm_X8_shiftGains s args RX8 RX8 104 yX8_holds cX8_holds 2 (some .boolean) (kw_X8_holds :: WU) rm_X8_holds 0 0 1 := cwV 1 hts (gV qm_8_104 qi_X8_holds ql_X8_holds qn_8 qc_X8_holds) rfl rfl rfl (by decide +kernel) ⟨Nat.le_of_ble_eq_true rfl, Nat.le_of_ble_eq_true rfl⟩
section
variable {p : Program} {l : Launch} {e : Env} {s : State} {m : MethodId} {args : Array Value} {below : List Frame} {meth : Method} {c : Code} {A : Nat → Prop} {G : GE} {a_t a_t_s a_t_image a_t_mind a_t_aside a_t_text a_t_read a_t_comes a_t_begins a_t_latest a_t_move a_t_sort a_t_items a_t_cell a_t_carried : Nat} {r : Int32} {z_t_s : Nat → Int32} {z_t_comes : Nat → Int32} {z_t_begins : Nat → Int32} {z_t_back : Int32} {z_t_waits : Int32} {z_t_loads : Int32}
set_option maxRecDepth 100000 in
set_option maxHeartbeats 4000000 in
theorem k_X8_shiftGains_80 (C : Cx p s m args meth c cX8_shiftGains (some .int) 8 RX8 G A) (t_isKept : Int32) (t_work : Int32) (t_kind : Int32) (t_letters : Int32) (t_at : Int32) (t_fault : Int32) (t_back : Int32) (t_waits : Int32) (t_miles : Int32) (t_loads : Int32) (t_bestRound : Int32) (t_bestPlace : Int32) (t_bestAdds : Int32) (t_regret : Int32) (t_z : Int32) (t_s : Nat → Int32) (t_comes : Nat → Int32) (t_begins : Nat → Int32) (x1 : Int32) (x2 : Int32) (x3 : Int32) (x4 : Int32) (x5 : Int32) (y0 : Int32) {H : Heap} {locs : List Loc} {ls : Array Slot} (hf : b_X8_shiftGains_80 x1 x2 x3 x4 x5 y0 t_s t_comes t_begins t_back t_waits t_loads = some (r, z_t_s, z_t_comes, z_t_begins, z_t_back, z_t_waits, z_t_loads)) (S : St G A s.heap H locs (w_X8_shiftGains G a_t a_t_s a_t_image a_t_mind a_t_aside a_t_text a_t_read a_t_comes a_t_begins a_t_latest a_t_move a_t_sort a_t_items a_t_cell a_t_carried t_isKept t_work t_kind t_letters t_at t_fault t_back t_waits t_miles t_loads t_bestRound t_bestPlace t_bestAdds t_regret t_z t_s t_comes t_begins)) (hl : lv_has ls 8 [(0, .ref a_t), (1, .int x1), (2, .int x2), (3, .int x3), (4, .int x4), (5, .int x5)]) : W p l e rm_X8_shiftGains s m args below meth c H locs 0 0 (QI G below args s A r (w_X8_shiftGains G a_t a_t_s a_t_image a_t_mind a_t_aside a_t_text a_t_read a_t_comes a_t_begins a_t_latest a_t_move a_t_sort a_t_items a_t_cell a_t_carried t_isKept t_work t_kind t_letters t_at t_fault z_t_back z_t_waits t_miles z_t_loads t_bestRound t_bestPlace t_bestAdds t_regret t_z z_t_s z_t_comes z_t_begins)) (F0 m 80 ls [.int y0]) := by
  unfold b_X8_shiftGains_80 at hf
  have hx := C.1
  have hb := C.2.1
  have hown := C.2.2.2.2.1
  have hts := C.2.2.2.2.2.1
  have hN := C.2.2.2.2.2.2.2.2.2.2
  refine lv_istore (pc := 80) (lv' := [(7, .int y0), (0, .ref a_t), (1, .int x1), (2, .int x2), (3, .int x3), (4, .int x4), (5, .int x5)]) hx hb dX8_shiftGains_80 hl (by decide) rfl (fun ls hl => ?_)
  refine lv_aload_n (pc := 82) hx hb dX8_shiftGains_82 rfl (lv_at hl 1 rfl) ?_
  refine lv_iload_n (pc := 83) hx hb dX8_shiftGains_83 rfl (lv_at hl 3 rfl) ?_
  refine lv_iload_n (pc := 84) hx hb dX8_shiftGains_84 rfl (lv_at hl 4 rfl) ?_
  obtain ⟨o1_t_s, hq1, hf⟩ := bd_e hf
  refine x_vV (pc := 85) (As := [.int x2, .int x3]) (rest := []) (isC := [0, 1]) (ws' := (w_X8_shiftGains G a_t a_t_s a_t_image a_t_mind a_t_aside a_t_text a_t_read a_t_comes a_t_begins a_t_latest a_t_move a_t_sort a_t_items a_t_cell a_t_carried t_isKept t_work t_kind t_letters t_at t_fault t_back t_waits t_miles t_loads t_bestRound t_bestPlace t_bestAdds t_regret t_z o1_t_s t_comes t_begins)) C S (c_X8_removes l G a_t a_t_s a_t_image a_t_mind a_t_aside a_t_text a_t_read a_t_comes a_t_begins a_t_latest a_t_move a_t_sort a_t_items a_t_cell a_t_carried t_isKept t_work t_kind t_letters t_at t_fault t_back t_waits t_miles t_loads t_bestRound t_bestPlace t_bestAdds t_regret t_z t_s x2 x3 o1_t_s hq1) (u_X8_shiftGains_X8_removes_170 hts) (ci := 8) rfl 0 rfl rfl (by decide +kernel) [some 0, some 1, none, none] (by decide +kernel) rfl rfl rfl hl.1 rfl (Nat.le_of_ble_eq_true rfl) dX8_shiftGains_85 (fun H locs S => ?_)
  refine lv_aload_n (pc := 88) hx hb dX8_shiftGains_88 rfl (lv_at hl 1 rfl) ?_
  refine lv_iload (pc := 89) hx hb dX8_shiftGains_89 (lv_at hl 5 rfl) ?_
  refine lv_iload (pc := 91) hx hb dX8_shiftGains_91 (lv_at hl 6 rfl) ?_
  refine lv_iload_n (pc := 93) hx hb dX8_shiftGains_93 rfl (lv_at hl 2 rfl) ?_
  obtain ⟨o2_t_s, hq2, hf⟩ := bd_e hf
  refine x_vV (pc := 94) (As := [.int x4, .int x5, .int x1]) (rest := []) (isC := [0, 1]) (ws' := (w_X8_shiftGains G a_t a_t_s a_t_image a_t_mind a_t_aside a_t_text a_t_read a_t_comes a_t_begins a_t_latest a_t_move a_t_sort a_t_items a_t_cell a_t_carried t_isKept t_work t_kind t_letters t_at t_fault t_back t_waits t_miles t_loads t_bestRound t_bestPlace t_bestAdds t_regret t_z o2_t_s t_comes t_begins)) C S (c_X8_inserts l G a_t a_t_s a_t_image a_t_mind a_t_aside a_t_text a_t_read a_t_comes a_t_begins a_t_latest a_t_move a_t_sort a_t_items a_t_cell a_t_carried t_isKept t_work t_kind t_letters t_at t_fault t_back t_waits t_miles t_loads t_bestRound t_bestPlace t_bestAdds t_regret t_z o1_t_s x4 x5 x1 o2_t_s hq2) (u_X8_shiftGains_X8_inserts_165 hts) (ci := 8) rfl 0 rfl rfl (by decide +kernel) [some 0, some 1, none, none] (by decide +kernel) rfl rfl rfl hl.1 rfl (Nat.le_of_ble_eq_true rfl) dX8_shiftGains_94 (fun H locs S => ?_)
  refine lv_iload (pc := 97) hx hb dX8_shiftGains_97 (lv_at hl 0 rfl) ?_
  cases hf
  exact x_iret (pc := 99) C S dX8_shiftGains_99
set_option maxRecDepth 100000 in
set_option maxHeartbeats 4000000 in
theorem k_X8_shiftGains_78 (C : Cx p s m args meth c cX8_shiftGains (some .int) 8 RX8 G A) (t_isKept : Int32) (t_work : Int32) (t_kind : Int32) (t_letters : Int32) (t_at : Int32) (t_fault : Int32) (t_back : Int32) (t_waits : Int32) (t_miles : Int32) (t_loads : Int32) (t_bestRound : Int32) (t_bestPlace : Int32) (t_bestAdds : Int32) (t_regret : Int32) (t_z : Int32) (t_s : Nat → Int32) (t_comes : Nat → Int32) (t_begins : Nat → Int32) (x1 : Int32) (x2 : Int32) (x3 : Int32) (x4 : Int32) (x5 : Int32) {H : Heap} {locs : List Loc} {ls : Array Slot} (hf : b_X8_shiftGains_78 x1 x2 x3 x4 x5 t_s t_comes t_begins t_back t_waits t_loads = some (r, z_t_s, z_t_comes, z_t_begins, z_t_back, z_t_waits, z_t_loads)) (S : St G A s.heap H locs (w_X8_shiftGains G a_t a_t_s a_t_image a_t_mind a_t_aside a_t_text a_t_read a_t_comes a_t_begins a_t_latest a_t_move a_t_sort a_t_items a_t_cell a_t_carried t_isKept t_work t_kind t_letters t_at t_fault t_back t_waits t_miles t_loads t_bestRound t_bestPlace t_bestAdds t_regret t_z t_s t_comes t_begins)) (hl : lv_has ls 8 [(0, .ref a_t), (1, .int x1), (2, .int x2), (3, .int x3), (4, .int x4), (5, .int x5)]) : W p l e rm_X8_shiftGains s m args below meth c H locs 0 0 (QI G below args s A r (w_X8_shiftGains G a_t a_t_s a_t_image a_t_mind a_t_aside a_t_text a_t_read a_t_comes a_t_begins a_t_latest a_t_move a_t_sort a_t_items a_t_cell a_t_carried t_isKept t_work t_kind t_letters t_at t_fault z_t_back z_t_waits t_miles z_t_loads t_bestRound t_bestPlace t_bestAdds t_regret t_z z_t_s z_t_comes z_t_begins)) (F0 m 78 ls []) := by
  unfold b_X8_shiftGains_78 at hf
  have hx := C.1
  have hb := C.2.1
  have hown := C.2.2.2.2.1
  have hts := C.2.2.2.2.2.1
  have hN := C.2.2.2.2.2.2.2.2.2.2
  refine lv_ldc (pc := 78) hx hb hown (hts _ qk_8_169) dX8_shiftGains_78 ?_
  exact k_X8_shiftGains_80 C (t_isKept) (t_work) (t_kind) (t_letters) (t_at) (t_fault) (t_back) (t_waits) (t_miles) (t_loads) (t_bestRound) (t_bestPlace) (t_bestAdds) (t_regret) (t_z) (t_s) (t_comes) (t_begins) (x1) (x2) (x3) (x4) (x5) ((-100000 : Int32)) hf S (lv_sub hl [0, 1, 2, 3, 4, 5] rfl)
set_option maxRecDepth 100000 in
set_option maxHeartbeats 4000000 in
theorem c_X8_shiftGains (l : Launch) (G : GE) (a_t a_t_s a_t_image a_t_mind a_t_aside a_t_text a_t_read a_t_comes a_t_begins a_t_latest a_t_move a_t_sort a_t_items a_t_cell a_t_carried : Nat) (t_isKept : Int32) (t_work : Int32) (t_kind : Int32) (t_letters : Int32) (t_at : Int32) (t_fault : Int32) (t_back : Int32) (t_waits : Int32) (t_miles : Int32) (t_loads : Int32) (t_bestRound : Int32) (t_bestPlace : Int32) (t_bestAdds : Int32) (t_regret : Int32) (t_z : Int32) (t_s : Nat → Int32) (t_comes : Nat → Int32) (t_begins : Nat → Int32) (x1 : Int32) (x2 : Int32) (x3 : Int32) (r : Int32) (z_t_s : Nat → Int32) (z_t_comes : Nat → Int32) (z_t_begins : Nat → Int32) (z_t_back : Int32) (z_t_waits : Int32) (z_t_loads : Int32) (hf : f_X8_shiftGains t_s t_comes t_begins t_back t_waits t_loads x1 x2 x3 = some (r, z_t_s, z_t_comes, z_t_begins, z_t_back, z_t_waits, z_t_loads)) : CI l G yX8_shiftGains kw_X8_shiftGains rm_X8_shiftGains [.ref a_t, .int x1, .int x2, .int x3] (w_X8_shiftGains G a_t a_t_s a_t_image a_t_mind a_t_aside a_t_text a_t_read a_t_comes a_t_begins a_t_latest a_t_move a_t_sort a_t_items a_t_cell a_t_carried t_isKept t_work t_kind t_letters t_at t_fault t_back t_waits t_miles t_loads t_bestRound t_bestPlace t_bestAdds t_regret t_z t_s t_comes t_begins) r (w_X8_shiftGains G a_t a_t_s a_t_image a_t_mind a_t_aside a_t_text a_t_read a_t_comes a_t_begins a_t_latest a_t_move a_t_sort a_t_items a_t_cell a_t_carried t_isKept t_work t_kind t_letters t_at t_fault z_t_back z_t_waits t_miles z_t_loads t_bestRound t_bestPlace t_bestAdds t_regret t_z z_t_s z_t_comes z_t_begins) := by
  refine en_I (cc := cX8_shiftGains) (maxL := 8) (ret := (some .int)) (by decide +kernel) (Nat.le_of_ble_eq_true rfl) ?_
  intro p e s m args below meth c A ls C S hl
  have hl : lv_has ls 8 [(0, .ref a_t), (1, .int x1), (2, .int x2), (3, .int x3)] := hl
  have C : Cx p s m args meth c cX8_shiftGains (some .int) 8 RX8 G A := C
  unfold f_X8_shiftGains at hf
  have hx := C.1
  have hb := C.2.1
  have hown := C.2.2.2.2.1
  have hts := C.2.2.2.2.2.1
  have hN := C.2.2.2.2.2.2.2.2.2.2
  refine lv_aload_n (pc := 0) hx hb dX8_shiftGains_0 rfl (lv_at hl 0 rfl) ?_
  refine lv_iload_n (pc := 1) hx hb dX8_shiftGains_1 rfl (lv_at hl 1 rfl) ?_
  refine lv_bipush (pc := 2) hx hb dX8_shiftGains_2 bc_6 ?_
  obtain ⟨r1, hq1, hf⟩ := bd_e hf
  refine x_vI (pc := 4) (As := [.int x1, .int (6 : Int32)]) (rest := []) (isC := [0, 1]) (ws' := (w_X8_shiftGains G a_t a_t_s a_t_image a_t_mind a_t_aside a_t_text a_t_read a_t_comes a_t_begins a_t_latest a_t_move a_t_sort a_t_items a_t_cell a_t_carried t_isKept t_work t_kind t_letters t_at t_fault t_back t_waits t_miles t_loads t_bestRound t_bestPlace t_bestAdds t_regret t_z t_s t_comes t_begins)) C S (c_X8_stopAt l G a_t a_t_s a_t_image a_t_mind a_t_aside a_t_text a_t_read a_t_comes a_t_begins a_t_latest a_t_move a_t_sort a_t_items a_t_cell a_t_carried t_isKept t_work t_kind t_letters t_at t_fault t_back t_waits t_miles t_loads t_bestRound t_bestPlace t_bestAdds t_regret t_z t_s x1 (6 : Int32) r1 hq1) (u_X8_shiftGains_X8_stopAt_78 hts) (ci := 8) rfl 0 rfl rfl (by decide +kernel) [some 0, some 1, none, none] (by decide +kernel) rfl rfl rfl hl.1 rfl (Nat.le_of_ble_eq_true rfl) dX8_shiftGains_4 (fun H locs S => ?_)
  refine lv_iconst (pc := 7) hx hb dX8_shiftGains_7 ic_1 ?_
  refine lv_icmp_ne (tgt := 14) (pc := 8) hx hb dX8_shiftGains_8 (by decide) (fun c2 => ?_) (fun c2 => ?_)
  · have hf := ifn c2 hf
    refine lv_aload_n (pc := 14) hx hb dX8_shiftGains_14 rfl (lv_at hl 0 rfl) ?_
    refine lv_iload_n (pc := 15) hx hb dX8_shiftGains_15 rfl (lv_at hl 1 rfl) ?_
    obtain ⟨r3, hq3, hf⟩ := bd_e hf
    refine x_vI (pc := 16) (As := [.int x1]) (rest := []) (isC := [0, 1]) (ws' := (w_X8_shiftGains G a_t a_t_s a_t_image a_t_mind a_t_aside a_t_text a_t_read a_t_comes a_t_begins a_t_latest a_t_move a_t_sort a_t_items a_t_cell a_t_carried t_isKept t_work t_kind t_letters t_at t_fault t_back t_waits t_miles t_loads t_bestRound t_bestPlace t_bestAdds t_regret t_z t_s t_comes t_begins)) C S (c_X8_roundOf l G a_t a_t_s a_t_image a_t_mind a_t_aside a_t_text a_t_read a_t_comes a_t_begins a_t_latest a_t_move a_t_sort a_t_items a_t_cell a_t_carried t_isKept t_work t_kind t_letters t_at t_fault t_back t_waits t_miles t_loads t_bestRound t_bestPlace t_bestAdds t_regret t_z t_s x1 r3 hq3) (u_X8_shiftGains_X8_roundOf_157 hts) (ci := 8) rfl 0 rfl rfl (by decide +kernel) [some 0, some 1, none, none] (by decide +kernel) rfl rfl rfl hl.1 rfl (Nat.le_of_ble_eq_true rfl) dX8_shiftGains_16 (fun H locs S => ?_)
    refine lv_istore (pc := 19) (lv' := [(4, .int r3), (0, .ref a_t), (1, .int x1), (2, .int x2), (3, .int x3)]) hx hb dX8_shiftGains_19 hl (by decide) rfl (fun ls hl => ?_)
    refine lv_aload_n (pc := 21) hx hb dX8_shiftGains_21 rfl (lv_at hl 1 rfl) ?_
    refine lv_iload (pc := 22) hx hb dX8_shiftGains_22 (lv_at hl 0 rfl) ?_
    refine lv_iload_n (pc := 24) hx hb dX8_shiftGains_24 rfl (lv_at hl 2 rfl) ?_
    obtain ⟨r4, hq4, hf⟩ := bd_e hf
    refine x_vI (pc := 25) (As := [.int r3, .int x1]) (rest := []) (isC := [0, 1]) (ws' := (w_X8_shiftGains G a_t a_t_s a_t_image a_t_mind a_t_aside a_t_text a_t_read a_t_comes a_t_begins a_t_latest a_t_move a_t_sort a_t_items a_t_cell a_t_carried t_isKept t_work t_kind t_letters t_at t_fault t_back t_waits t_miles t_loads t_bestRound t_bestPlace t_bestAdds t_regret t_z t_s t_comes t_begins)) C S (c_X8_placeIn l G a_t a_t_s a_t_image a_t_mind a_t_aside a_t_text a_t_read a_t_comes a_t_begins a_t_latest a_t_move a_t_sort a_t_items a_t_cell a_t_carried t_isKept t_work t_kind t_letters t_at t_fault t_back t_waits t_miles t_loads t_bestRound t_bestPlace t_bestAdds t_regret t_z t_s r3 x1 r4 hq4) (u_X8_shiftGains_X8_placeIn_66 hts) (ci := 8) rfl 0 rfl rfl (by decide +kernel) [some 0, some 1, none, none] (by decide +kernel) rfl rfl rfl hl.1 rfl (Nat.le_of_ble_eq_true rfl) dX8_shiftGains_25 (fun H locs S => ?_)
    refine lv_istore (pc := 28) (lv' := [(5, .int r4), (4, .int r3), (0, .ref a_t), (1, .int x1), (2, .int x2), (3, .int x3)]) hx hb dX8_shiftGains_28 hl (by decide) rfl (fun ls hl => ?_)
    refine lv_aload_n (pc := 30) hx hb dX8_shiftGains_30 rfl (lv_at hl 2 rfl) ?_
    obtain ⟨r5, hq5, hf⟩ := bd_e hf
    refine x_vI (pc := 31) (As := []) (rest := []) (isC := [0, 1]) (ws' := (w_X8_shiftGains G a_t a_t_s a_t_image a_t_mind a_t_aside a_t_text a_t_read a_t_comes a_t_begins a_t_latest a_t_move a_t_sort a_t_items a_t_cell a_t_carried t_isKept t_work t_kind t_letters t_at t_fault t_back t_waits t_miles t_loads t_bestRound t_bestPlace t_bestAdds t_regret t_z t_s t_comes t_begins)) C S (c_X8_cost l G a_t a_t_s a_t_image a_t_mind a_t_aside a_t_text a_t_read a_t_comes a_t_begins a_t_latest a_t_move a_t_sort a_t_items a_t_cell a_t_carried t_isKept t_work t_kind t_letters t_at t_fault t_back t_waits t_miles t_loads t_bestRound t_bestPlace t_bestAdds t_regret t_z t_s r5 hq5) (u_X8_shiftGains_X8_cost_177 hts) (ci := 8) rfl 0 rfl rfl (by decide +kernel) [some 0, some 1, none, none] (by decide +kernel) rfl rfl rfl hl.1 rfl (Nat.le_of_ble_eq_true rfl) dX8_shiftGains_31 (fun H locs S => ?_)
    refine lv_istore (pc := 34) (lv' := [(6, .int r5), (5, .int r4), (4, .int r3), (0, .ref a_t), (1, .int x1), (2, .int x2), (3, .int x3)]) hx hb dX8_shiftGains_34 hl (by decide) rfl (fun ls hl => ?_)
    refine lv_aload_n (pc := 36) hx hb dX8_shiftGains_36 rfl (lv_at hl 3 rfl) ?_
    refine lv_iload (pc := 37) hx hb dX8_shiftGains_37 (lv_at hl 2 rfl) ?_
    refine lv_iload (pc := 39) hx hb dX8_shiftGains_39 (lv_at hl 1 rfl) ?_
    obtain ⟨o6_t_s, hq6, hf⟩ := bd_e hf
    refine x_vV (pc := 41) (As := [.int r3, .int r4]) (rest := []) (isC := [0, 1]) (ws' := (w_X8_shiftGains G a_t a_t_s a_t_image a_t_mind a_t_aside a_t_text a_t_read a_t_comes a_t_begins a_t_latest a_t_move a_t_sort a_t_items a_t_cell a_t_carried t_isKept t_work t_kind t_letters t_at t_fault t_back t_waits t_miles t_loads t_bestRound t_bestPlace t_bestAdds t_regret t_z o6_t_s t_comes t_begins)) C S (c_X8_removes l G a_t a_t_s a_t_image a_t_mind a_t_aside a_t_text a_t_read a_t_comes a_t_begins a_t_latest a_t_move a_t_sort a_t_items a_t_cell a_t_carried t_isKept t_work t_kind t_letters t_at t_fault t_back t_waits t_miles t_loads t_bestRound t_bestPlace t_bestAdds t_regret t_z t_s r3 r4 o6_t_s hq6) (u_X8_shiftGains_X8_removes_170 hts) (ci := 8) rfl 0 rfl rfl (by decide +kernel) [some 0, some 1, none, none] (by decide +kernel) rfl rfl rfl hl.1 rfl (Nat.le_of_ble_eq_true rfl) dX8_shiftGains_41 (fun H locs S => ?_)
    refine lv_aload_n (pc := 44) hx hb dX8_shiftGains_44 rfl (lv_at hl 3 rfl) ?_
    refine lv_iload_n (pc := 45) hx hb dX8_shiftGains_45 rfl (lv_at hl 5 rfl) ?_
    refine lv_iload_n (pc := 46) hx hb dX8_shiftGains_46 rfl (lv_at hl 6 rfl) ?_
    refine lv_iload_n (pc := 47) hx hb dX8_shiftGains_47 rfl (lv_at hl 4 rfl) ?_
    obtain ⟨o7_t_s, hq7, hf⟩ := bd_e hf
    refine x_vV (pc := 48) (As := [.int x2, .int x3, .int x1]) (rest := []) (isC := [0, 1]) (ws' := (w_X8_shiftGains G a_t a_t_s a_t_image a_t_mind a_t_aside a_t_text a_t_read a_t_comes a_t_begins a_t_latest a_t_move a_t_sort a_t_items a_t_cell a_t_carried t_isKept t_work t_kind t_letters t_at t_fault t_back t_waits t_miles t_loads t_bestRound t_bestPlace t_bestAdds t_regret t_z o7_t_s t_comes t_begins)) C S (c_X8_inserts l G a_t a_t_s a_t_image a_t_mind a_t_aside a_t_text a_t_read a_t_comes a_t_begins a_t_latest a_t_move a_t_sort a_t_items a_t_cell a_t_carried t_isKept t_work t_kind t_letters t_at t_fault t_back t_waits t_miles t_loads t_bestRound t_bestPlace t_bestAdds t_regret t_z o6_t_s x2 x3 x1 o7_t_s hq7) (u_X8_shiftGains_X8_inserts_165 hts) (ci := 8) rfl 0 rfl rfl (by decide +kernel) [some 0, some 1, none, none] (by decide +kernel) rfl rfl rfl hl.1 rfl (Nat.le_of_ble_eq_true rfl) dX8_shiftGains_48 (fun H locs S => ?_)
    refine lv_aload_n (pc := 51) hx hb dX8_shiftGains_51 rfl (lv_at hl 3 rfl) ?_
    refine lv_iload (pc := 52) hx hb dX8_shiftGains_52 (lv_at hl 2 rfl) ?_
    obtain ⟨⟨r8, o8_t_comes, o8_t_begins, o8_t_back, o8_t_waits, o8_t_loads⟩, hq8, hf⟩ := bd_e hf
    refine x_vI (pc := 54) (As := [.int r3]) (rest := []) (isC := [0, 1, 2, 3]) (ws' := (w_X8_shiftGains G a_t a_t_s a_t_image a_t_mind a_t_aside a_t_text a_t_read a_t_comes a_t_begins a_t_latest a_t_move a_t_sort a_t_items a_t_cell a_t_carried t_isKept t_work t_kind t_letters t_at t_fault o8_t_back o8_t_waits t_miles o8_t_loads t_bestRound t_bestPlace t_bestAdds t_regret t_z o7_t_s o8_t_comes o8_t_begins)) C S (c_X8_holds l G a_t a_t_s a_t_image a_t_mind a_t_aside a_t_text a_t_read a_t_comes a_t_begins a_t_latest a_t_move a_t_sort a_t_items a_t_cell a_t_carried t_isKept t_work t_kind t_letters t_at t_fault t_back t_waits t_miles t_loads t_bestRound t_bestPlace t_bestAdds t_regret t_z o7_t_s t_comes t_begins r3 r8 o8_t_comes o8_t_begins o8_t_back o8_t_waits o8_t_loads hq8) (u_X8_shiftGains_X8_holds_104 hts) (ci := 8) rfl 0 rfl rfl (by decide +kernel) [some 0, some 1, some 2, some 3] (by decide +kernel) rfl rfl rfl hl.1 rfl (Nat.le_of_ble_eq_true rfl) dX8_shiftGains_54 (fun H locs S => ?_)
    refine lv_if_eq (tgt := 78) (pc := 57) hx hb dX8_shiftGains_57 (by decide) (fun c9 => ?_) (fun c9 => ?_)
    · have hf := ifp c9 hf
      exact k_X8_shiftGains_78 C (t_isKept) (t_work) (t_kind) (t_letters) (t_at) (t_fault) (o8_t_back) (o8_t_waits) (t_miles) (o8_t_loads) (t_bestRound) (t_bestPlace) (t_bestAdds) (t_regret) (t_z) (o7_t_s) (o8_t_comes) (o8_t_begins) (x1) (x2) (x3) (r3) (r4) hf S (lv_sub hl [3, 4, 5, 6, 2, 1] rfl)
    · have hf := ifn c9 hf
      refine lv_aload_n (pc := 60) hx hb dX8_shiftGains_60 rfl (lv_at hl 3 rfl) ?_
      refine lv_iload_n (pc := 61) hx hb dX8_shiftGains_61 rfl (lv_at hl 5 rfl) ?_
      obtain ⟨⟨r10, o10_t_comes, o10_t_begins, o10_t_back, o10_t_waits, o10_t_loads⟩, hq10, hf⟩ := bd_e hf
      refine x_vI (pc := 62) (As := [.int x2]) (rest := []) (isC := [0, 1, 2, 3]) (ws' := (w_X8_shiftGains G a_t a_t_s a_t_image a_t_mind a_t_aside a_t_text a_t_read a_t_comes a_t_begins a_t_latest a_t_move a_t_sort a_t_items a_t_cell a_t_carried t_isKept t_work t_kind t_letters t_at t_fault o10_t_back o10_t_waits t_miles o10_t_loads t_bestRound t_bestPlace t_bestAdds t_regret t_z o7_t_s o10_t_comes o10_t_begins)) C S (c_X8_holds l G a_t a_t_s a_t_image a_t_mind a_t_aside a_t_text a_t_read a_t_comes a_t_begins a_t_latest a_t_move a_t_sort a_t_items a_t_cell a_t_carried t_isKept t_work t_kind t_letters t_at t_fault o8_t_back o8_t_waits t_miles o8_t_loads t_bestRound t_bestPlace t_bestAdds t_regret t_z o7_t_s o8_t_comes o8_t_begins x2 r10 o10_t_comes o10_t_begins o10_t_back o10_t_waits o10_t_loads hq10) (u_X8_shiftGains_X8_holds_104 hts) (ci := 8) rfl 0 rfl rfl (by decide +kernel) [some 0, some 1, some 2, some 3] (by decide +kernel) rfl rfl rfl hl.1 rfl (Nat.le_of_ble_eq_true rfl) dX8_shiftGains_62 (fun H locs S => ?_)
      refine lv_if_eq (tgt := 78) (pc := 65) hx hb dX8_shiftGains_65 (by decide) (fun c11 => ?_) (fun c11 => ?_)
      · have hf := ifp c11 hf
        exact k_X8_shiftGains_78 C (t_isKept) (t_work) (t_kind) (t_letters) (t_at) (t_fault) (o10_t_back) (o10_t_waits) (t_miles) (o10_t_loads) (t_bestRound) (t_bestPlace) (t_bestAdds) (t_regret) (t_z) (o7_t_s) (o10_t_comes) (o10_t_begins) (x1) (x2) (x3) (r3) (r4) hf S (lv_sub hl [3, 4, 5, 6, 2, 1] rfl)
      · have hf := ifn c11 hf
        refine lv_iload (pc := 68) hx hb dX8_shiftGains_68 (lv_at hl 0 rfl) ?_
        refine lv_aload_n (pc := 70) hx hb dX8_shiftGains_70 rfl (lv_at hl 3 rfl) ?_
        obtain ⟨r12, hq12, hf⟩ := bd_e hf
        refine x_vI (pc := 71) (As := []) (rest := [.int r5]) (isC := [0, 1]) (ws' := (w_X8_shiftGains G a_t a_t_s a_t_image a_t_mind a_t_aside a_t_text a_t_read a_t_comes a_t_begins a_t_latest a_t_move a_t_sort a_t_items a_t_cell a_t_carried t_isKept t_work t_kind t_letters t_at t_fault o10_t_back o10_t_waits t_miles o10_t_loads t_bestRound t_bestPlace t_bestAdds t_regret t_z o7_t_s o10_t_comes o10_t_begins)) C S (c_X8_cost l G a_t a_t_s a_t_image a_t_mind a_t_aside a_t_text a_t_read a_t_comes a_t_begins a_t_latest a_t_move a_t_sort a_t_items a_t_cell a_t_carried t_isKept t_work t_kind t_letters t_at t_fault o10_t_back o10_t_waits t_miles o10_t_loads t_bestRound t_bestPlace t_bestAdds t_regret t_z o7_t_s r12 hq12) (u_X8_shiftGains_X8_cost_177 hts) (ci := 8) rfl 0 rfl rfl (by decide +kernel) [some 0, some 1, none, none] (by decide +kernel) rfl rfl rfl hl.1 rfl (Nat.le_of_ble_eq_true rfl) dX8_shiftGains_71 (fun H locs S => ?_)
        refine lv_isub (pc := 74) hx hb dX8_shiftGains_74 ?_
        refine lv_goto (tgt := 80) (pc := 75) hx hb dX8_shiftGains_75 (by decide) ?_
        exact k_X8_shiftGains_80 C (t_isKept) (t_work) (t_kind) (t_letters) (t_at) (t_fault) (o10_t_back) (o10_t_waits) (t_miles) (o10_t_loads) (t_bestRound) (t_bestPlace) (t_bestAdds) (t_regret) (t_z) (o7_t_s) (o10_t_comes) (o10_t_begins) (x1) (x2) (x3) (r3) (r4) ((r5 - r12)) hf S (lv_sub hl [3, 4, 5, 6, 2, 1] rfl)
  · have hf := ifp c2 hf
    refine lv_ldc (pc := 11) hx hb hown (hts _ qk_8_169) dX8_shiftGains_11 ?_
    cases hf
    exact x_iret (pc := 13) C S dX8_shiftGains_13
end

abbrev rm_X8_swaps : Room := { frames := 3, cells := 0, slots := 0, locals := 67 }
abbrev kw_X8_swaps : Cond := .code yX8_swaps cX8_swaps 7 none
abbrev w_X8_swaps (G : GE) (a_t a_t_s a_t_image a_t_mind a_t_aside a_t_text a_t_read a_t_comes a_t_begins a_t_latest a_t_move a_t_sort a_t_items a_t_cell a_t_carried : Nat) (t_isKept : Int32) (t_work : Int32) (t_kind : Int32) (t_letters : Int32) (t_at : Int32) (t_fault : Int32) (t_back : Int32) (t_waits : Int32) (t_miles : Int32) (t_loads : Int32) (t_bestRound : Int32) (t_bestPlace : Int32) (t_bestAdds : Int32) (t_regret : Int32) (t_z : Int32) (t_s : Nat → Int32) : va_W := [(a_t, ob 8 [.ref a_t_s, .ref a_t_image, .ref a_t_mind, .ref a_t_aside, .int t_isKept, .int t_work, .int t_kind, .ref a_t_text, .ref a_t_read, .int t_letters, .int t_at, .int t_fault, .ref a_t_comes, .ref a_t_begins, .ref a_t_latest, .int t_back, .int t_waits, .int t_miles, .int t_loads, .int t_bestRound, .int t_bestPlace, .int t_bestAdds, .int t_regret, .ref a_t_move, .ref a_t_sort, .ref a_t_items, .ref a_t_cell, .ref a_t_carried, .int t_z]), (a_t_s, aI G 258 t_s)]
theorem u_X8_swaps_X8_roundOf_157 {s : State} {args : Array Value} (hts : ∀ w ∈ WU, w.before args s = true) : CallW rm_X8_swaps s args RX8 RX8 157 yX8_roundOf cX8_roundOf 3 (some .int) (kw_X8_roundOf :: WU) rm_X8_roundOf 0 0 1 := cwV 1 hts (gV qm_8_157 qi_X8_roundOf ql_X8_roundOf qn_8 qc_X8_roundOf) rfl rfl rfl (by decide +kernel) ⟨Nat.le_of_ble_eq_true rfl, Nat.le_of_ble_eq_true rfl⟩
theorem u_X8_swaps_X8_placeIn_66 {s : State} {args : Array Value} (hts : ∀ w ∈ WU, w.before args s = true) : CallW rm_X8_swaps s args RX8 RX8 66 yX8_placeIn cX8_placeIn 4 (some .int) (kw_X8_placeIn :: WU) rm_X8_placeIn 0 0 2 := cwV 2 hts (gV qm_8_66 qi_X8_placeIn ql_X8_placeIn qn_8 qc_X8_placeIn) rfl rfl rfl (by decide +kernel) ⟨Nat.le_of_ble_eq_true rfl, Nat.le_of_ble_eq_true rfl⟩
section
variable {p : Program} {l : Launch} {e : Env} {s : State} {m : MethodId} {args : Array Value} {below : List Frame} {meth : Method} {c : Code} {A : Nat → Prop} {G : GE} {a_t a_t_s a_t_image a_t_mind a_t_aside a_t_text a_t_read a_t_comes a_t_begins a_t_latest a_t_move a_t_sort a_t_items a_t_cell a_t_carried : Nat} {z_t_s : Nat → Int32}
set_option maxRecDepth 100000 in
set_option maxHeartbeats 4000000 in
theorem c_X8_swaps (l : Launch) (G : GE) (a_t a_t_s a_t_image a_t_mind a_t_aside a_t_text a_t_read a_t_comes a_t_begins a_t_latest a_t_move a_t_sort a_t_items a_t_cell a_t_carried : Nat) (t_isKept : Int32) (t_work : Int32) (t_kind : Int32) (t_letters : Int32) (t_at : Int32) (t_fault : Int32) (t_back : Int32) (t_waits : Int32) (t_miles : Int32) (t_loads : Int32) (t_bestRound : Int32) (t_bestPlace : Int32) (t_bestAdds : Int32) (t_regret : Int32) (t_z : Int32) (t_s : Nat → Int32) (x1 : Int32) (x2 : Int32) (z_t_s : Nat → Int32) (hf : f_X8_swaps t_s x1 x2 = some z_t_s) : CV l G yX8_swaps kw_X8_swaps rm_X8_swaps [.ref a_t, .int x1, .int x2] (w_X8_swaps G a_t a_t_s a_t_image a_t_mind a_t_aside a_t_text a_t_read a_t_comes a_t_begins a_t_latest a_t_move a_t_sort a_t_items a_t_cell a_t_carried t_isKept t_work t_kind t_letters t_at t_fault t_back t_waits t_miles t_loads t_bestRound t_bestPlace t_bestAdds t_regret t_z t_s) (w_X8_swaps G a_t a_t_s a_t_image a_t_mind a_t_aside a_t_text a_t_read a_t_comes a_t_begins a_t_latest a_t_move a_t_sort a_t_items a_t_cell a_t_carried t_isKept t_work t_kind t_letters t_at t_fault t_back t_waits t_miles t_loads t_bestRound t_bestPlace t_bestAdds t_regret t_z z_t_s) := by
  refine en_V (cc := cX8_swaps) (maxL := 7) (ret := none) (by decide +kernel) (Nat.le_of_ble_eq_true rfl) ?_
  intro p e s m args below meth c A ls C S hl
  have hl : lv_has ls 7 [(0, .ref a_t), (1, .int x1), (2, .int x2)] := hl
  have C : Cx p s m args meth c cX8_swaps none 7 RX8 G A := C
  unfold f_X8_swaps at hf
  have hx := C.1
  have hb := C.2.1
  have hown := C.2.2.2.2.1
  have hts := C.2.2.2.2.2.1
  have hN := C.2.2.2.2.2.2.2.2.2.2
  refine lv_aload_n (pc := 0) hx hb dX8_swaps_0 rfl (lv_at hl 0 rfl) ?_
  refine lv_iload_n (pc := 1) hx hb dX8_swaps_1 rfl (lv_at hl 1 rfl) ?_
  obtain ⟨r1, hq1, hf⟩ := bd_e hf
  refine x_vI (pc := 2) (As := [.int x1]) (rest := []) (isC := [0, 1]) (ws' := (w_X8_swaps G a_t a_t_s a_t_image a_t_mind a_t_aside a_t_text a_t_read a_t_comes a_t_begins a_t_latest a_t_move a_t_sort a_t_items a_t_cell a_t_carried t_isKept t_work t_kind t_letters t_at t_fault t_back t_waits t_miles t_loads t_bestRound t_bestPlace t_bestAdds t_regret t_z t_s)) C S (c_X8_roundOf l G a_t a_t_s a_t_image a_t_mind a_t_aside a_t_text a_t_read a_t_comes a_t_begins a_t_latest a_t_move a_t_sort a_t_items a_t_cell a_t_carried t_isKept t_work t_kind t_letters t_at t_fault t_back t_waits t_miles t_loads t_bestRound t_bestPlace t_bestAdds t_regret t_z t_s x1 r1 hq1) (u_X8_swaps_X8_roundOf_157 hts) (ci := 8) rfl 0 rfl rfl (by decide +kernel) [some 0, some 1] (by decide +kernel) rfl rfl rfl hl.1 rfl (Nat.le_of_ble_eq_true rfl) dX8_swaps_2 (fun H locs S => ?_)
  refine lv_istore_n (pc := 5) (lv' := [(3, .int r1), (0, .ref a_t), (1, .int x1), (2, .int x2)]) hx hb dX8_swaps_5 rfl hl (by decide) rfl (fun ls hl => ?_)
  refine lv_aload_n (pc := 6) hx hb dX8_swaps_6 rfl (lv_at hl 1 rfl) ?_
  refine lv_iload_n (pc := 7) hx hb dX8_swaps_7 rfl (lv_at hl 3 rfl) ?_
  obtain ⟨r2, hq2, hf⟩ := bd_e hf
  refine x_vI (pc := 8) (As := [.int x2]) (rest := []) (isC := [0, 1]) (ws' := (w_X8_swaps G a_t a_t_s a_t_image a_t_mind a_t_aside a_t_text a_t_read a_t_comes a_t_begins a_t_latest a_t_move a_t_sort a_t_items a_t_cell a_t_carried t_isKept t_work t_kind t_letters t_at t_fault t_back t_waits t_miles t_loads t_bestRound t_bestPlace t_bestAdds t_regret t_z t_s)) C S (c_X8_roundOf l G a_t a_t_s a_t_image a_t_mind a_t_aside a_t_text a_t_read a_t_comes a_t_begins a_t_latest a_t_move a_t_sort a_t_items a_t_cell a_t_carried t_isKept t_work t_kind t_letters t_at t_fault t_back t_waits t_miles t_loads t_bestRound t_bestPlace t_bestAdds t_regret t_z t_s x2 r2 hq2) (u_X8_swaps_X8_roundOf_157 hts) (ci := 8) rfl 0 rfl rfl (by decide +kernel) [some 0, some 1] (by decide +kernel) rfl rfl rfl hl.1 rfl (Nat.le_of_ble_eq_true rfl) dX8_swaps_8 (fun H locs S => ?_)
  refine lv_istore (pc := 11) (lv' := [(4, .int r2), (3, .int r1), (0, .ref a_t), (1, .int x1), (2, .int x2)]) hx hb dX8_swaps_11 hl (by decide) rfl (fun ls hl => ?_)
  refine lv_sipush (pc := 13) hx hb dX8_swaps_13 sc_178 ?_
  refine lv_bipush (pc := 16) hx hb dX8_swaps_16 bc_20 ?_
  refine lv_iload_n (pc := 18) hx hb dX8_swaps_18 rfl (lv_at hl 1 rfl) ?_
  refine lv_imul (pc := 19) hx hb dX8_swaps_19 ?_
  refine lv_iadd (pc := 20) hx hb dX8_swaps_20 ?_
  refine lv_iconst (pc := 21) hx hb dX8_swaps_21 ic_4 ?_
  refine lv_iadd (pc := 22) hx hb dX8_swaps_22 ?_
  refine lv_aload_n (pc := 23) hx hb dX8_swaps_23 rfl (lv_at hl 2 rfl) ?_
  refine lv_iload_n (pc := 24) hx hb dX8_swaps_24 rfl (lv_at hl 1 rfl) ?_
  refine lv_iload_n (pc := 25) hx hb dX8_swaps_25 rfl (lv_at hl 3 rfl) ?_
  obtain ⟨r3, hq3, hf⟩ := bd_e hf
  refine x_vI (pc := 26) (As := [.int r1, .int x1]) (rest := [.int (((178 : Int32) + ((20 : Int32) * r1)) + (4 : Int32))]) (isC := [0, 1]) (ws' := (w_X8_swaps G a_t a_t_s a_t_image a_t_mind a_t_aside a_t_text a_t_read a_t_comes a_t_begins a_t_latest a_t_move a_t_sort a_t_items a_t_cell a_t_carried t_isKept t_work t_kind t_letters t_at t_fault t_back t_waits t_miles t_loads t_bestRound t_bestPlace t_bestAdds t_regret t_z t_s)) C S (c_X8_placeIn l G a_t a_t_s a_t_image a_t_mind a_t_aside a_t_text a_t_read a_t_comes a_t_begins a_t_latest a_t_move a_t_sort a_t_items a_t_cell a_t_carried t_isKept t_work t_kind t_letters t_at t_fault t_back t_waits t_miles t_loads t_bestRound t_bestPlace t_bestAdds t_regret t_z t_s r1 x1 r3 hq3) (u_X8_swaps_X8_placeIn_66 hts) (ci := 8) rfl 0 rfl rfl (by decide +kernel) [some 0, some 1] (by decide +kernel) rfl rfl rfl hl.1 rfl (Nat.le_of_ble_eq_true rfl) dX8_swaps_26 (fun H locs S => ?_)
  refine lv_iadd (pc := 29) hx hb dX8_swaps_29 ?_
  refine lv_istore (pc := 30) (lv' := [(5, .int ((((178 : Int32) + ((20 : Int32) * r1)) + (4 : Int32)) + r3)), (4, .int r2), (3, .int r1), (0, .ref a_t), (1, .int x1), (2, .int x2)]) hx hb dX8_swaps_30 hl (by decide) rfl (fun ls hl => ?_)
  refine lv_sipush (pc := 32) hx hb dX8_swaps_32 sc_178 ?_
  refine lv_bipush (pc := 35) hx hb dX8_swaps_35 bc_20 ?_
  refine lv_iload (pc := 37) hx hb dX8_swaps_37 (lv_at hl 1 rfl) ?_
  refine lv_imul (pc := 39) hx hb dX8_swaps_39 ?_
  refine lv_iadd (pc := 40) hx hb dX8_swaps_40 ?_
  refine lv_iconst (pc := 41) hx hb dX8_swaps_41 ic_4 ?_
  refine lv_iadd (pc := 42) hx hb dX8_swaps_42 ?_
  refine lv_aload_n (pc := 43) hx hb dX8_swaps_43 rfl (lv_at hl 3 rfl) ?_
  refine lv_iload (pc := 44) hx hb dX8_swaps_44 (lv_at hl 1 rfl) ?_
  refine lv_iload_n (pc := 46) hx hb dX8_swaps_46 rfl (lv_at hl 5 rfl) ?_
  obtain ⟨r4, hq4, hf⟩ := bd_e hf
  refine x_vI (pc := 47) (As := [.int r2, .int x2]) (rest := [.int (((178 : Int32) + ((20 : Int32) * r2)) + (4 : Int32))]) (isC := [0, 1]) (ws' := (w_X8_swaps G a_t a_t_s a_t_image a_t_mind a_t_aside a_t_text a_t_read a_t_comes a_t_begins a_t_latest a_t_move a_t_sort a_t_items a_t_cell a_t_carried t_isKept t_work t_kind t_letters t_at t_fault t_back t_waits t_miles t_loads t_bestRound t_bestPlace t_bestAdds t_regret t_z t_s)) C S (c_X8_placeIn l G a_t a_t_s a_t_image a_t_mind a_t_aside a_t_text a_t_read a_t_comes a_t_begins a_t_latest a_t_move a_t_sort a_t_items a_t_cell a_t_carried t_isKept t_work t_kind t_letters t_at t_fault t_back t_waits t_miles t_loads t_bestRound t_bestPlace t_bestAdds t_regret t_z t_s r2 x2 r4 hq4) (u_X8_swaps_X8_placeIn_66 hts) (ci := 8) rfl 0 rfl rfl (by decide +kernel) [some 0, some 1] (by decide +kernel) rfl rfl rfl hl.1 rfl (Nat.le_of_ble_eq_true rfl) dX8_swaps_47 (fun H locs S => ?_)
  refine lv_iadd (pc := 50) hx hb dX8_swaps_50 ?_
  refine lv_istore (pc := 51) (lv' := [(6, .int ((((178 : Int32) + ((20 : Int32) * r2)) + (4 : Int32)) + r4)), (5, .int ((((178 : Int32) + ((20 : Int32) * r1)) + (4 : Int32)) + r3)), (4, .int r2), (3, .int r1), (0, .ref a_t), (1, .int x1), (2, .int x2)]) hx hb dX8_swaps_51 hl (by decide) rfl (fun ls hl => ?_)
  refine lv_aload_n (pc := 53) hx hb dX8_swaps_53 rfl (lv_at hl 4 rfl) ?_
  refine x_get (pc := 54) (ci := 8) (T := TX8) (v := .ref a_t_s) C S 0 rfl rfl inlX8 0 (by decide) rfl qf_8_11 rfl dX8_swaps_54 ?_
  refine lv_iload (pc := 57) hx hb dX8_swaps_57 (lv_at hl 1 rfl) ?_
  refine lv_iload_n (pc := 59) hx hb dX8_swaps_59 rfl (lv_at hl 6 rfl) ?_
  obtain ⟨hv5, hf⟩ := gI_e hf
  refine x_iast (pc := 60) (ws' := (w_X8_swaps G a_t a_t_s a_t_image a_t_mind a_t_aside a_t_text a_t_read a_t_comes a_t_begins a_t_latest a_t_move a_t_sort a_t_items a_t_cell a_t_carried t_isKept t_work t_kind t_letters t_at t_fault t_back t_waits t_miles t_loads t_bestRound t_bestPlace t_bestAdds t_regret t_z (upd t_s ((((178 : Int32) + ((20 : Int32) * r1)) + (4 : Int32)) + r3).toNatClampNeg x2))) C S 1 rfl hv5 rfl dX8_swaps_60 (fun H locs S => ?_)
  refine lv_aload_n (pc := 61) hx hb dX8_swaps_61 rfl (lv_at hl 4 rfl) ?_
  refine x_get (pc := 62) (ci := 8) (T := TX8) (v := .ref a_t_s) C S 0 rfl rfl inlX8 0 (by decide) rfl qf_8_11 rfl dX8_swaps_62 ?_
  refine lv_iload (pc := 65) hx hb dX8_swaps_65 (lv_at hl 0 rfl) ?_
  refine lv_iload_n (pc := 67) hx hb dX8_swaps_67 rfl (lv_at hl 5 rfl) ?_
  obtain ⟨hv6, hf⟩ := gI_e hf
  refine x_iast (pc := 68) (ws' := (w_X8_swaps G a_t a_t_s a_t_image a_t_mind a_t_aside a_t_text a_t_read a_t_comes a_t_begins a_t_latest a_t_move a_t_sort a_t_items a_t_cell a_t_carried t_isKept t_work t_kind t_letters t_at t_fault t_back t_waits t_miles t_loads t_bestRound t_bestPlace t_bestAdds t_regret t_z (upd (upd t_s ((((178 : Int32) + ((20 : Int32) * r1)) + (4 : Int32)) + r3).toNatClampNeg x2) ((((178 : Int32) + ((20 : Int32) * r2)) + (4 : Int32)) + r4).toNatClampNeg x1))) C S 1 rfl hv6 rfl dX8_swaps_68 (fun H locs S => ?_)
  cases hf
  exact x_vret (pc := 69) C S dX8_swaps_69
end

abbrev rm_X8_swapGains : Room := { frames := 5, cells := 0, slots := 0, locals := 120 }
abbrev kw_X8_swapGains : Cond := .code yX8_swapGains cX8_swapGains 7 (some .int)
abbrev w_X8_swapGains (G : GE) (a_t a_t_s a_t_image a_t_mind a_t_aside a_t_text a_t_read a_t_comes a_t_begins a_t_latest a_t_move a_t_sort a_t_items a_t_cell a_t_carried : Nat) (t_isKept : Int32) (t_work : Int32) (t_kind : Int32) (t_letters : Int32) (t_at : Int32) (t_fault : Int32) (t_back : Int32) (t_waits : Int32) (t_miles : Int32) (t_loads : Int32) (t_bestRound : Int32) (t_bestPlace : Int32) (t_bestAdds : Int32) (t_regret : Int32) (t_z : Int32) (t_s : Nat → Int32) (t_comes : Nat → Int32) (t_begins : Nat → Int32) : va_W := [(a_t, ob 8 [.ref a_t_s, .ref a_t_image, .ref a_t_mind, .ref a_t_aside, .int t_isKept, .int t_work, .int t_kind, .ref a_t_text, .ref a_t_read, .int t_letters, .int t_at, .int t_fault, .ref a_t_comes, .ref a_t_begins, .ref a_t_latest, .int t_back, .int t_waits, .int t_miles, .int t_loads, .int t_bestRound, .int t_bestPlace, .int t_bestAdds, .int t_regret, .ref a_t_move, .ref a_t_sort, .ref a_t_items, .ref a_t_cell, .ref a_t_carried, .int t_z]), (a_t_s, aI G 258 t_s), (a_t_comes, aI G 16 t_comes), (a_t_begins, aI G 16 t_begins)]
theorem u_X8_swapGains_X8_stopAt_78 {s : State} {args : Array Value} (hts : ∀ w ∈ WU, w.before args s = true) : CallW rm_X8_swapGains s args RX8 RX8 78 yX8_stopAt cX8_stopAt 3 (some .int) (kw_X8_stopAt :: WU) rm_X8_stopAt 0 0 2 := cwV 2 hts (gV qm_8_78 qi_X8_stopAt ql_X8_stopAt qn_8 qc_X8_stopAt) rfl rfl rfl (by decide +kernel) ⟨Nat.le_of_ble_eq_true rfl, Nat.le_of_ble_eq_true rfl⟩
theorem u_X8_swapGains_X8_roundOf_157 {s : State} {args : Array Value} (hts : ∀ w ∈ WU, w.before args s = true) : CallW rm_X8_swapGains s args RX8 RX8 157 yX8_roundOf cX8_roundOf 3 (some .int) (kw_X8_roundOf :: WU) rm_X8_roundOf 0 0 1 := cwV 1 hts (gV qm_8_157 qi_X8_roundOf ql_X8_roundOf qn_8 qc_X8_roundOf) rfl rfl rfl (by decide +kernel) ⟨Nat.le_of_ble_eq_true rfl, Nat.le_of_ble_eq_true rfl⟩
theorem u_X8_swapGains_X8_cost_177 {s : State} {args : Array Value} (hts : ∀ w ∈ WU, w.before args s = true) : CallW rm_X8_swapGains s args RX8 RX8 177 yX8_cost cX8_cost 3 (some .int) (kw_X8_cost :: WU) rm_X8_cost 0 0 0 := cwV 0 hts (gV qm_8_177 qi_X8_cost ql_X8_cost qn_8 qc_X8_cost) rfl rfl rfl (by decide +kernel) ⟨Nat.le_of_ble_eq_true rfl, Nat.le_of_ble_eq_true rfl⟩
theorem u_X8_swapGains_X8_swaps_217 {s : State} {args : Array Value} (hts : ∀ w ∈ WU, w.before args s = true) : CallW rm_X8_swapGains s args RX8 RX8 217 yX8_swaps cX8_swaps 7 none (kw_X8_swaps :: WU) rm_X8_swaps 0 0 2 := cwV 2 hts (gV qm_8_217 qi_X8_swaps ql_X8_swaps qn_8 qc_X8_swaps) rfl rfl rfl (by decide +kernel) ⟨Nat.le_of_ble_eq_true rfl, Nat.le_of_ble_eq_true rfl⟩
theorem u_X8_swapGains_X8_holds_104 {s : State} {args : Array Value} (hts : ∀ w ∈ WU, w.before args s = true) : CallW rm_X8_swapGains s args RX8 RX8 104 yX8_holds cX8_holds 2 (some .boolean) (kw_X8_holds :: WU) rm_X8_holds 0 0 1 := cwV 1 hts (gV qm_8_104 qi_X8_holds ql_X8_holds qn_8 qc_X8_holds) rfl rfl rfl (by decide +kernel) ⟨Nat.le_of_ble_eq_true rfl, Nat.le_of_ble_eq_true rfl⟩
section
variable {p : Program} {l : Launch} {e : Env} {s : State} {m : MethodId} {args : Array Value} {below : List Frame} {meth : Method} {c : Code} {A : Nat → Prop} {G : GE} {a_t a_t_s a_t_image a_t_mind a_t_aside a_t_text a_t_read a_t_comes a_t_begins a_t_latest a_t_move a_t_sort a_t_items a_t_cell a_t_carried : Nat} {r : Int32} {z_t_s : Nat → Int32} {z_t_comes : Nat → Int32} {z_t_begins : Nat → Int32} {z_t_back : Int32} {z_t_waits : Int32} {z_t_loads : Int32}
set_option maxRecDepth 100000 in
set_option maxHeartbeats 4000000 in
theorem k_X8_swapGains_79 (C : Cx p s m args meth c cX8_swapGains (some .int) 7 RX8 G A) (t_isKept : Int32) (t_work : Int32) (t_kind : Int32) (t_letters : Int32) (t_at : Int32) (t_fault : Int32) (t_back : Int32) (t_waits : Int32) (t_miles : Int32) (t_loads : Int32) (t_bestRound : Int32) (t_bestPlace : Int32) (t_bestAdds : Int32) (t_regret : Int32) (t_z : Int32) (t_s : Nat → Int32) (t_comes : Nat → Int32) (t_begins : Nat → Int32) (x1 : Int32) (x2 : Int32) (y0 : Int32) {H : Heap} {locs : List Loc} {ls : Array Slot} (hf : b_X8_swapGains_79 x1 x2 y0 t_s t_comes t_begins t_back t_waits t_loads = some (r, z_t_s, z_t_comes, z_t_begins, z_t_back, z_t_waits, z_t_loads)) (S : St G A s.heap H locs (w_X8_swapGains G a_t a_t_s a_t_image a_t_mind a_t_aside a_t_text a_t_read a_t_comes a_t_begins a_t_latest a_t_move a_t_sort a_t_items a_t_cell a_t_carried t_isKept t_work t_kind t_letters t_at t_fault t_back t_waits t_miles t_loads t_bestRound t_bestPlace t_bestAdds t_regret t_z t_s t_comes t_begins)) (hl : lv_has ls 7 [(0, .ref a_t), (1, .int x1), (2, .int x2)]) : W p l e rm_X8_swapGains s m args below meth c H locs 0 0 (QI G below args s A r (w_X8_swapGains G a_t a_t_s a_t_image a_t_mind a_t_aside a_t_text a_t_read a_t_comes a_t_begins a_t_latest a_t_move a_t_sort a_t_items a_t_cell a_t_carried t_isKept t_work t_kind t_letters t_at t_fault z_t_back z_t_waits t_miles z_t_loads t_bestRound t_bestPlace t_bestAdds t_regret t_z z_t_s z_t_comes z_t_begins)) (F0 m 79 ls [.int y0]) := by
  unfold b_X8_swapGains_79 at hf
  have hx := C.1
  have hb := C.2.1
  have hown := C.2.2.2.2.1
  have hts := C.2.2.2.2.2.1
  have hN := C.2.2.2.2.2.2.2.2.2.2
  refine lv_istore (pc := 79) (lv' := [(6, .int y0), (0, .ref a_t), (1, .int x1), (2, .int x2)]) hx hb dX8_swapGains_79 hl (by decide) rfl (fun ls hl => ?_)
  refine lv_aload_n (pc := 81) hx hb dX8_swapGains_81 rfl (lv_at hl 1 rfl) ?_
  refine lv_iload_n (pc := 82) hx hb dX8_swapGains_82 rfl (lv_at hl 2 rfl) ?_
  refine lv_iload_n (pc := 83) hx hb dX8_swapGains_83 rfl (lv_at hl 3 rfl) ?_
  obtain ⟨o1_t_s, hq1, hf⟩ := bd_e hf
  refine x_vV (pc := 84) (As := [.int x1, .int x2]) (rest := []) (isC := [0, 1]) (ws' := (w_X8_swapGains G a_t a_t_s a_t_image a_t_mind a_t_aside a_t_text a_t_read a_t_comes a_t_begins a_t_latest a_t_move a_t_sort a_t_items a_t_cell a_t_carried t_isKept t_work t_kind t_letters t_at t_fault t_back t_waits t_miles t_loads t_bestRound t_bestPlace t_bestAdds t_regret t_z o1_t_s t_comes t_begins)) C S (c_X8_swaps l G a_t a_t_s a_t_image a_t_mind a_t_aside a_t_text a_t_read a_t_comes a_t_begins a_t_latest a_t_move a_t_sort a_t_items a_t_cell a_t_carried t_isKept t_work t_kind t_letters t_at t_fault t_back t_waits t_miles t_loads t_bestRound t_bestPlace t_bestAdds t_regret t_z t_s x1 x2 o1_t_s hq1) (u_X8_swapGains_X8_swaps_217 hts) (ci := 8) rfl 0 rfl rfl (by decide +kernel) [some 0, some 1, none, none] (by decide +kernel) rfl rfl rfl hl.1 rfl (Nat.le_of_ble_eq_true rfl) dX8_swapGains_84 (fun H locs S => ?_)
  refine lv_iload (pc := 87) hx hb dX8_swapGains_87 (lv_at hl 0 rfl) ?_
  cases hf
  exact x_iret (pc := 89) C S dX8_swapGains_89
set_option maxRecDepth 100000 in
set_option maxHeartbeats 4000000 in
theorem k_X8_swapGains_77 (C : Cx p s m args meth c cX8_swapGains (some .int) 7 RX8 G A) (t_isKept : Int32) (t_work : Int32) (t_kind : Int32) (t_letters : Int32) (t_at : Int32) (t_fault : Int32) (t_back : Int32) (t_waits : Int32) (t_miles : Int32) (t_loads : Int32) (t_bestRound : Int32) (t_bestPlace : Int32) (t_bestAdds : Int32) (t_regret : Int32) (t_z : Int32) (t_s : Nat → Int32) (t_comes : Nat → Int32) (t_begins : Nat → Int32) (x1 : Int32) (x2 : Int32) {H : Heap} {locs : List Loc} {ls : Array Slot} (hf : b_X8_swapGains_77 x1 x2 t_s t_comes t_begins t_back t_waits t_loads = some (r, z_t_s, z_t_comes, z_t_begins, z_t_back, z_t_waits, z_t_loads)) (S : St G A s.heap H locs (w_X8_swapGains G a_t a_t_s a_t_image a_t_mind a_t_aside a_t_text a_t_read a_t_comes a_t_begins a_t_latest a_t_move a_t_sort a_t_items a_t_cell a_t_carried t_isKept t_work t_kind t_letters t_at t_fault t_back t_waits t_miles t_loads t_bestRound t_bestPlace t_bestAdds t_regret t_z t_s t_comes t_begins)) (hl : lv_has ls 7 [(0, .ref a_t), (1, .int x1), (2, .int x2)]) : W p l e rm_X8_swapGains s m args below meth c H locs 0 0 (QI G below args s A r (w_X8_swapGains G a_t a_t_s a_t_image a_t_mind a_t_aside a_t_text a_t_read a_t_comes a_t_begins a_t_latest a_t_move a_t_sort a_t_items a_t_cell a_t_carried t_isKept t_work t_kind t_letters t_at t_fault z_t_back z_t_waits t_miles z_t_loads t_bestRound t_bestPlace t_bestAdds t_regret t_z z_t_s z_t_comes z_t_begins)) (F0 m 77 ls []) := by
  unfold b_X8_swapGains_77 at hf
  have hx := C.1
  have hb := C.2.1
  have hown := C.2.2.2.2.1
  have hts := C.2.2.2.2.2.1
  have hN := C.2.2.2.2.2.2.2.2.2.2
  refine lv_ldc (pc := 77) hx hb hown (hts _ qk_8_169) dX8_swapGains_77 ?_
  exact k_X8_swapGains_79 C (t_isKept) (t_work) (t_kind) (t_letters) (t_at) (t_fault) (t_back) (t_waits) (t_miles) (t_loads) (t_bestRound) (t_bestPlace) (t_bestAdds) (t_regret) (t_z) (t_s) (t_comes) (t_begins) (x1) (x2) ((-100000 : Int32)) hf S (lv_sub hl [0, 1, 2] rfl)
set_option maxRecDepth 100000 in
set_option maxHeartbeats 4000000 in
theorem c_X8_swapGains (l : Launch) (G : GE) (a_t a_t_s a_t_image a_t_mind a_t_aside a_t_text a_t_read a_t_comes a_t_begins a_t_latest a_t_move a_t_sort a_t_items a_t_cell a_t_carried : Nat) (t_isKept : Int32) (t_work : Int32) (t_kind : Int32) (t_letters : Int32) (t_at : Int32) (t_fault : Int32) (t_back : Int32) (t_waits : Int32) (t_miles : Int32) (t_loads : Int32) (t_bestRound : Int32) (t_bestPlace : Int32) (t_bestAdds : Int32) (t_regret : Int32) (t_z : Int32) (t_s : Nat → Int32) (t_comes : Nat → Int32) (t_begins : Nat → Int32) (x1 : Int32) (x2 : Int32) (r : Int32) (z_t_s : Nat → Int32) (z_t_comes : Nat → Int32) (z_t_begins : Nat → Int32) (z_t_back : Int32) (z_t_waits : Int32) (z_t_loads : Int32) (hf : f_X8_swapGains t_s t_comes t_begins t_back t_waits t_loads x1 x2 = some (r, z_t_s, z_t_comes, z_t_begins, z_t_back, z_t_waits, z_t_loads)) : CI l G yX8_swapGains kw_X8_swapGains rm_X8_swapGains [.ref a_t, .int x1, .int x2] (w_X8_swapGains G a_t a_t_s a_t_image a_t_mind a_t_aside a_t_text a_t_read a_t_comes a_t_begins a_t_latest a_t_move a_t_sort a_t_items a_t_cell a_t_carried t_isKept t_work t_kind t_letters t_at t_fault t_back t_waits t_miles t_loads t_bestRound t_bestPlace t_bestAdds t_regret t_z t_s t_comes t_begins) r (w_X8_swapGains G a_t a_t_s a_t_image a_t_mind a_t_aside a_t_text a_t_read a_t_comes a_t_begins a_t_latest a_t_move a_t_sort a_t_items a_t_cell a_t_carried t_isKept t_work t_kind t_letters t_at t_fault z_t_back z_t_waits t_miles z_t_loads t_bestRound t_bestPlace t_bestAdds t_regret t_z z_t_s z_t_comes z_t_begins) := by
  refine en_I (cc := cX8_swapGains) (maxL := 7) (ret := (some .int)) (by decide +kernel) (Nat.le_of_ble_eq_true rfl) ?_
  intro p e s m args below meth c A ls C S hl
  have hl : lv_has ls 7 [(0, .ref a_t), (1, .int x1), (2, .int x2)] := hl
  have C : Cx p s m args meth c cX8_swapGains (some .int) 7 RX8 G A := C
  unfold f_X8_swapGains at hf
  have hx := C.1
  have hb := C.2.1
  have hown := C.2.2.2.2.1
  have hts := C.2.2.2.2.2.1
  have hN := C.2.2.2.2.2.2.2.2.2.2
  refine lv_aload_n (pc := 0) hx hb dX8_swapGains_0 rfl (lv_at hl 0 rfl) ?_
  refine lv_iload_n (pc := 1) hx hb dX8_swapGains_1 rfl (lv_at hl 1 rfl) ?_
  refine lv_bipush (pc := 2) hx hb dX8_swapGains_2 bc_6 ?_
  obtain ⟨r1, hq1, hf⟩ := bd_e hf
  refine x_vI (pc := 4) (As := [.int x1, .int (6 : Int32)]) (rest := []) (isC := [0, 1]) (ws' := (w_X8_swapGains G a_t a_t_s a_t_image a_t_mind a_t_aside a_t_text a_t_read a_t_comes a_t_begins a_t_latest a_t_move a_t_sort a_t_items a_t_cell a_t_carried t_isKept t_work t_kind t_letters t_at t_fault t_back t_waits t_miles t_loads t_bestRound t_bestPlace t_bestAdds t_regret t_z t_s t_comes t_begins)) C S (c_X8_stopAt l G a_t a_t_s a_t_image a_t_mind a_t_aside a_t_text a_t_read a_t_comes a_t_begins a_t_latest a_t_move a_t_sort a_t_items a_t_cell a_t_carried t_isKept t_work t_kind t_letters t_at t_fault t_back t_waits t_miles t_loads t_bestRound t_bestPlace t_bestAdds t_regret t_z t_s x1 (6 : Int32) r1 hq1) (u_X8_swapGains_X8_stopAt_78 hts) (ci := 8) rfl 0 rfl rfl (by decide +kernel) [some 0, some 1, none, none] (by decide +kernel) rfl rfl rfl hl.1 rfl (Nat.le_of_ble_eq_true rfl) dX8_swapGains_4 (fun H locs S => ?_)
  refine lv_iconst (pc := 7) hx hb dX8_swapGains_7 ic_1 ?_
  refine lv_icmp_eq (tgt := 22) (pc := 8) hx hb dX8_swapGains_8 (by decide) (fun c2 => ?_) (fun c2 => ?_)
  · have hf := ifp c2 hf
    refine lv_ldc (pc := 22) hx hb hown (hts _ qk_8_169) dX8_swapGains_22 ?_
    cases hf
    exact x_iret (pc := 24) C S dX8_swapGains_24
  · have hf := ifn c2 hf
    refine lv_aload_n (pc := 11) hx hb dX8_swapGains_11 rfl (lv_at hl 0 rfl) ?_
    refine lv_iload_n (pc := 12) hx hb dX8_swapGains_12 rfl (lv_at hl 2 rfl) ?_
    refine lv_bipush (pc := 13) hx hb dX8_swapGains_13 bc_6 ?_
    obtain ⟨r3, hq3, hf⟩ := bd_e hf
    refine x_vI (pc := 15) (As := [.int x2, .int (6 : Int32)]) (rest := []) (isC := [0, 1]) (ws' := (w_X8_swapGains G a_t a_t_s a_t_image a_t_mind a_t_aside a_t_text a_t_read a_t_comes a_t_begins a_t_latest a_t_move a_t_sort a_t_items a_t_cell a_t_carried t_isKept t_work t_kind t_letters t_at t_fault t_back t_waits t_miles t_loads t_bestRound t_bestPlace t_bestAdds t_regret t_z t_s t_comes t_begins)) C S (c_X8_stopAt l G a_t a_t_s a_t_image a_t_mind a_t_aside a_t_text a_t_read a_t_comes a_t_begins a_t_latest a_t_move a_t_sort a_t_items a_t_cell a_t_carried t_isKept t_work t_kind t_letters t_at t_fault t_back t_waits t_miles t_loads t_bestRound t_bestPlace t_bestAdds t_regret t_z t_s x2 (6 : Int32) r3 hq3) (u_X8_swapGains_X8_stopAt_78 hts) (ci := 8) rfl 0 rfl rfl (by decide +kernel) [some 0, some 1, none, none] (by decide +kernel) rfl rfl rfl hl.1 rfl (Nat.le_of_ble_eq_true rfl) dX8_swapGains_15 (fun H locs S => ?_)
    refine lv_iconst (pc := 18) hx hb dX8_swapGains_18 ic_1 ?_
    refine lv_icmp_ne (tgt := 25) (pc := 19) hx hb dX8_swapGains_19 (by decide) (fun c4 => ?_) (fun c4 => ?_)
    · have hf := ifn c4 hf
      refine lv_aload_n (pc := 25) hx hb dX8_swapGains_25 rfl (lv_at hl 0 rfl) ?_
      refine lv_iload_n (pc := 26) hx hb dX8_swapGains_26 rfl (lv_at hl 1 rfl) ?_
      obtain ⟨r5, hq5, hf⟩ := bd_e hf
      refine x_vI (pc := 27) (As := [.int x1]) (rest := []) (isC := [0, 1]) (ws' := (w_X8_swapGains G a_t a_t_s a_t_image a_t_mind a_t_aside a_t_text a_t_read a_t_comes a_t_begins a_t_latest a_t_move a_t_sort a_t_items a_t_cell a_t_carried t_isKept t_work t_kind t_letters t_at t_fault t_back t_waits t_miles t_loads t_bestRound t_bestPlace t_bestAdds t_regret t_z t_s t_comes t_begins)) C S (c_X8_roundOf l G a_t a_t_s a_t_image a_t_mind a_t_aside a_t_text a_t_read a_t_comes a_t_begins a_t_latest a_t_move a_t_sort a_t_items a_t_cell a_t_carried t_isKept t_work t_kind t_letters t_at t_fault t_back t_waits t_miles t_loads t_bestRound t_bestPlace t_bestAdds t_regret t_z t_s x1 r5 hq5) (u_X8_swapGains_X8_roundOf_157 hts) (ci := 8) rfl 0 rfl rfl (by decide +kernel) [some 0, some 1, none, none] (by decide +kernel) rfl rfl rfl hl.1 rfl (Nat.le_of_ble_eq_true rfl) dX8_swapGains_27 (fun H locs S => ?_)
      refine lv_istore_n (pc := 30) (lv' := [(3, .int r5), (0, .ref a_t), (1, .int x1), (2, .int x2)]) hx hb dX8_swapGains_30 rfl hl (by decide) rfl (fun ls hl => ?_)
      refine lv_aload_n (pc := 31) hx hb dX8_swapGains_31 rfl (lv_at hl 1 rfl) ?_
      refine lv_iload_n (pc := 32) hx hb dX8_swapGains_32 rfl (lv_at hl 3 rfl) ?_
      obtain ⟨r6, hq6, hf⟩ := bd_e hf
      refine x_vI (pc := 33) (As := [.int x2]) (rest := []) (isC := [0, 1]) (ws' := (w_X8_swapGains G a_t a_t_s a_t_image a_t_mind a_t_aside a_t_text a_t_read a_t_comes a_t_begins a_t_latest a_t_move a_t_sort a_t_items a_t_cell a_t_carried t_isKept t_work t_kind t_letters t_at t_fault t_back t_waits t_miles t_loads t_bestRound t_bestPlace t_bestAdds t_regret t_z t_s t_comes t_begins)) C S (c_X8_roundOf l G a_t a_t_s a_t_image a_t_mind a_t_aside a_t_text a_t_read a_t_comes a_t_begins a_t_latest a_t_move a_t_sort a_t_items a_t_cell a_t_carried t_isKept t_work t_kind t_letters t_at t_fault t_back t_waits t_miles t_loads t_bestRound t_bestPlace t_bestAdds t_regret t_z t_s x2 r6 hq6) (u_X8_swapGains_X8_roundOf_157 hts) (ci := 8) rfl 0 rfl rfl (by decide +kernel) [some 0, some 1, none, none] (by decide +kernel) rfl rfl rfl hl.1 rfl (Nat.le_of_ble_eq_true rfl) dX8_swapGains_33 (fun H locs S => ?_)
      refine lv_istore (pc := 36) (lv' := [(4, .int r6), (3, .int r5), (0, .ref a_t), (1, .int x1), (2, .int x2)]) hx hb dX8_swapGains_36 hl (by decide) rfl (fun ls hl => ?_)
      refine lv_aload_n (pc := 38) hx hb dX8_swapGains_38 rfl (lv_at hl 2 rfl) ?_
      obtain ⟨r7, hq7, hf⟩ := bd_e hf
      refine x_vI (pc := 39) (As := []) (rest := []) (isC := [0, 1]) (ws' := (w_X8_swapGains G a_t a_t_s a_t_image a_t_mind a_t_aside a_t_text a_t_read a_t_comes a_t_begins a_t_latest a_t_move a_t_sort a_t_items a_t_cell a_t_carried t_isKept t_work t_kind t_letters t_at t_fault t_back t_waits t_miles t_loads t_bestRound t_bestPlace t_bestAdds t_regret t_z t_s t_comes t_begins)) C S (c_X8_cost l G a_t a_t_s a_t_image a_t_mind a_t_aside a_t_text a_t_read a_t_comes a_t_begins a_t_latest a_t_move a_t_sort a_t_items a_t_cell a_t_carried t_isKept t_work t_kind t_letters t_at t_fault t_back t_waits t_miles t_loads t_bestRound t_bestPlace t_bestAdds t_regret t_z t_s r7 hq7) (u_X8_swapGains_X8_cost_177 hts) (ci := 8) rfl 0 rfl rfl (by decide +kernel) [some 0, some 1, none, none] (by decide +kernel) rfl rfl rfl hl.1 rfl (Nat.le_of_ble_eq_true rfl) dX8_swapGains_39 (fun H locs S => ?_)
      refine lv_istore (pc := 42) (lv' := [(5, .int r7), (4, .int r6), (3, .int r5), (0, .ref a_t), (1, .int x1), (2, .int x2)]) hx hb dX8_swapGains_42 hl (by decide) rfl (fun ls hl => ?_)
      refine lv_aload_n (pc := 44) hx hb dX8_swapGains_44 rfl (lv_at hl 3 rfl) ?_
      refine lv_iload_n (pc := 45) hx hb dX8_swapGains_45 rfl (lv_at hl 4 rfl) ?_
      refine lv_iload_n (pc := 46) hx hb dX8_swapGains_46 rfl (lv_at hl 5 rfl) ?_
      obtain ⟨o8_t_s, hq8, hf⟩ := bd_e hf
      refine x_vV (pc := 47) (As := [.int x1, .int x2]) (rest := []) (isC := [0, 1]) (ws' := (w_X8_swapGains G a_t a_t_s a_t_image a_t_mind a_t_aside a_t_text a_t_read a_t_comes a_t_begins a_t_latest a_t_move a_t_sort a_t_items a_t_cell a_t_carried t_isKept t_work t_kind t_letters t_at t_fault t_back t_waits t_miles t_loads t_bestRound t_bestPlace t_bestAdds t_regret t_z o8_t_s t_comes t_begins)) C S (c_X8_swaps l G a_t a_t_s a_t_image a_t_mind a_t_aside a_t_text a_t_read a_t_comes a_t_begins a_t_latest a_t_move a_t_sort a_t_items a_t_cell a_t_carried t_isKept t_work t_kind t_letters t_at t_fault t_back t_waits t_miles t_loads t_bestRound t_bestPlace t_bestAdds t_regret t_z t_s x1 x2 o8_t_s hq8) (u_X8_swapGains_X8_swaps_217 hts) (ci := 8) rfl 0 rfl rfl (by decide +kernel) [some 0, some 1, none, none] (by decide +kernel) rfl rfl rfl hl.1 rfl (Nat.le_of_ble_eq_true rfl) dX8_swapGains_47 (fun H locs S => ?_)
      refine lv_aload_n (pc := 50) hx hb dX8_swapGains_50 rfl (lv_at hl 3 rfl) ?_
      refine lv_iload_n (pc := 51) hx hb dX8_swapGains_51 rfl (lv_at hl 2 rfl) ?_
      obtain ⟨⟨r9, o9_t_comes, o9_t_begins, o9_t_back, o9_t_waits, o9_t_loads⟩, hq9, hf⟩ := bd_e hf
      refine x_vI (pc := 52) (As := [.int r5]) (rest := []) (isC := [0, 1, 2, 3]) (ws' := (w_X8_swapGains G a_t a_t_s a_t_image a_t_mind a_t_aside a_t_text a_t_read a_t_comes a_t_begins a_t_latest a_t_move a_t_sort a_t_items a_t_cell a_t_carried t_isKept t_work t_kind t_letters t_at t_fault o9_t_back o9_t_waits t_miles o9_t_loads t_bestRound t_bestPlace t_bestAdds t_regret t_z o8_t_s o9_t_comes o9_t_begins)) C S (c_X8_holds l G a_t a_t_s a_t_image a_t_mind a_t_aside a_t_text a_t_read a_t_comes a_t_begins a_t_latest a_t_move a_t_sort a_t_items a_t_cell a_t_carried t_isKept t_work t_kind t_letters t_at t_fault t_back t_waits t_miles t_loads t_bestRound t_bestPlace t_bestAdds t_regret t_z o8_t_s t_comes t_begins r5 r9 o9_t_comes o9_t_begins o9_t_back o9_t_waits o9_t_loads hq9) (u_X8_swapGains_X8_holds_104 hts) (ci := 8) rfl 0 rfl rfl (by decide +kernel) [some 0, some 1, some 2, some 3] (by decide +kernel) rfl rfl rfl hl.1 rfl (Nat.le_of_ble_eq_true rfl) dX8_swapGains_52 (fun H locs S => ?_)
      refine lv_if_eq (tgt := 77) (pc := 55) hx hb dX8_swapGains_55 (by decide) (fun c10 => ?_) (fun c10 => ?_)
      · have hf := ifp c10 hf
        exact k_X8_swapGains_77 C (t_isKept) (t_work) (t_kind) (t_letters) (t_at) (t_fault) (o9_t_back) (o9_t_waits) (t_miles) (o9_t_loads) (t_bestRound) (t_bestPlace) (t_bestAdds) (t_regret) (t_z) (o8_t_s) (o9_t_comes) (o9_t_begins) (x1) (x2) hf S (lv_sub hl [3, 4, 5] rfl)
      · have hf := ifn c10 hf
        refine lv_aload_n (pc := 58) hx hb dX8_swapGains_58 rfl (lv_at hl 3 rfl) ?_
        refine lv_iload (pc := 59) hx hb dX8_swapGains_59 (lv_at hl 1 rfl) ?_
        obtain ⟨⟨r11, o11_t_comes, o11_t_begins, o11_t_back, o11_t_waits, o11_t_loads⟩, hq11, hf⟩ := bd_e hf
        refine x_vI (pc := 61) (As := [.int r6]) (rest := []) (isC := [0, 1, 2, 3]) (ws' := (w_X8_swapGains G a_t a_t_s a_t_image a_t_mind a_t_aside a_t_text a_t_read a_t_comes a_t_begins a_t_latest a_t_move a_t_sort a_t_items a_t_cell a_t_carried t_isKept t_work t_kind t_letters t_at t_fault o11_t_back o11_t_waits t_miles o11_t_loads t_bestRound t_bestPlace t_bestAdds t_regret t_z o8_t_s o11_t_comes o11_t_begins)) C S (c_X8_holds l G a_t a_t_s a_t_image a_t_mind a_t_aside a_t_text a_t_read a_t_comes a_t_begins a_t_latest a_t_move a_t_sort a_t_items a_t_cell a_t_carried t_isKept t_work t_kind t_letters t_at t_fault o9_t_back o9_t_waits t_miles o9_t_loads t_bestRound t_bestPlace t_bestAdds t_regret t_z o8_t_s o9_t_comes o9_t_begins r6 r11 o11_t_comes o11_t_begins o11_t_back o11_t_waits o11_t_loads hq11) (u_X8_swapGains_X8_holds_104 hts) (ci := 8) rfl 0 rfl rfl (by decide +kernel) [some 0, some 1, some 2, some 3] (by decide +kernel) rfl rfl rfl hl.1 rfl (Nat.le_of_ble_eq_true rfl) dX8_swapGains_61 (fun H locs S => ?_)
        refine lv_if_eq (tgt := 77) (pc := 64) hx hb dX8_swapGains_64 (by decide) (fun c12 => ?_) (fun c12 => ?_)
        · have hf := ifp c12 hf
          exact k_X8_swapGains_77 C (t_isKept) (t_work) (t_kind) (t_letters) (t_at) (t_fault) (o11_t_back) (o11_t_waits) (t_miles) (o11_t_loads) (t_bestRound) (t_bestPlace) (t_bestAdds) (t_regret) (t_z) (o8_t_s) (o11_t_comes) (o11_t_begins) (x1) (x2) hf S (lv_sub hl [3, 4, 5] rfl)
        · have hf := ifn c12 hf
          refine lv_iload (pc := 67) hx hb dX8_swapGains_67 (lv_at hl 0 rfl) ?_
          refine lv_aload_n (pc := 69) hx hb dX8_swapGains_69 rfl (lv_at hl 3 rfl) ?_
          obtain ⟨r13, hq13, hf⟩ := bd_e hf
          refine x_vI (pc := 70) (As := []) (rest := [.int r7]) (isC := [0, 1]) (ws' := (w_X8_swapGains G a_t a_t_s a_t_image a_t_mind a_t_aside a_t_text a_t_read a_t_comes a_t_begins a_t_latest a_t_move a_t_sort a_t_items a_t_cell a_t_carried t_isKept t_work t_kind t_letters t_at t_fault o11_t_back o11_t_waits t_miles o11_t_loads t_bestRound t_bestPlace t_bestAdds t_regret t_z o8_t_s o11_t_comes o11_t_begins)) C S (c_X8_cost l G a_t a_t_s a_t_image a_t_mind a_t_aside a_t_text a_t_read a_t_comes a_t_begins a_t_latest a_t_move a_t_sort a_t_items a_t_cell a_t_carried t_isKept t_work t_kind t_letters t_at t_fault o11_t_back o11_t_waits t_miles o11_t_loads t_bestRound t_bestPlace t_bestAdds t_regret t_z o8_t_s r13 hq13) (u_X8_swapGains_X8_cost_177 hts) (ci := 8) rfl 0 rfl rfl (by decide +kernel) [some 0, some 1, none, none] (by decide +kernel) rfl rfl rfl hl.1 rfl (Nat.le_of_ble_eq_true rfl) dX8_swapGains_70 (fun H locs S => ?_)
          refine lv_isub (pc := 73) hx hb dX8_swapGains_73 ?_
          refine lv_goto (tgt := 79) (pc := 74) hx hb dX8_swapGains_74 (by decide) ?_
          exact k_X8_swapGains_79 C (t_isKept) (t_work) (t_kind) (t_letters) (t_at) (t_fault) (o11_t_back) (o11_t_waits) (t_miles) (o11_t_loads) (t_bestRound) (t_bestPlace) (t_bestAdds) (t_regret) (t_z) (o8_t_s) (o11_t_comes) (o11_t_begins) (x1) (x2) ((r7 - r13)) hf S (lv_sub hl [3, 4, 5] rfl)
    · have hf := ifp c4 hf
      refine lv_ldc (pc := 22) hx hb hown (hts _ qk_8_169) dX8_swapGains_22 ?_
      cases hf
      exact x_iret (pc := 24) C S dX8_swapGains_24
end

abbrev rm_X8_findsBest : Room := { frames := 6, cells := 0, slots := 0, locals := 147 }
abbrev kw_X8_findsBest : Cond := .code yX8_findsBest cX8_findsBest 7 (some .boolean)
abbrev w_X8_findsBest (G : GE) (a_t a_t_s a_t_image a_t_mind a_t_aside a_t_text a_t_read a_t_comes a_t_begins a_t_latest a_t_move a_t_sort a_t_items a_t_cell a_t_carried : Nat) (t_isKept : Int32) (t_work : Int32) (t_kind : Int32) (t_letters : Int32) (t_at : Int32) (t_fault : Int32) (t_back : Int32) (t_waits : Int32) (t_miles : Int32) (t_loads : Int32) (t_bestRound : Int32) (t_bestPlace : Int32) (t_bestAdds : Int32) (t_regret : Int32) (t_z : Int32) (t_s : Nat → Int32) (t_comes : Nat → Int32) (t_begins : Nat → Int32) (t_move : Nat → Int32) : va_W := [(a_t, ob 8 [.ref a_t_s, .ref a_t_image, .ref a_t_mind, .ref a_t_aside, .int t_isKept, .int t_work, .int t_kind, .ref a_t_text, .ref a_t_read, .int t_letters, .int t_at, .int t_fault, .ref a_t_comes, .ref a_t_begins, .ref a_t_latest, .int t_back, .int t_waits, .int t_miles, .int t_loads, .int t_bestRound, .int t_bestPlace, .int t_bestAdds, .int t_regret, .ref a_t_move, .ref a_t_sort, .ref a_t_items, .ref a_t_cell, .ref a_t_carried, .int t_z]), (a_t_s, aI G 258 t_s), (a_t_comes, aI G 16 t_comes), (a_t_begins, aI G 16 t_begins), (a_t_move, aI G 5 t_move)]
theorem u_X8_findsBest_X8_roundAt_59 {s : State} {args : Array Value} (hts : ∀ w ∈ WU, w.before args s = true) : CallW rm_X8_findsBest s args RX8 RX8 59 yX8_roundAt cX8_roundAt 3 (some .int) (kw_X8_roundAt :: WU) rm_X8_roundAt 0 0 2 := cwV 2 hts (gV qm_8_59 qi_X8_roundAt ql_X8_roundAt qn_8 qc_X8_roundAt) rfl rfl rfl (by decide +kernel) ⟨Nat.le_of_ble_eq_true rfl, Nat.le_of_ble_eq_true rfl⟩
theorem u_X8_findsBest_X8_turnGains_220 {s : State} {args : Array Value} (hts : ∀ w ∈ WU, w.before args s = true) : CallW rm_X8_findsBest s args RX8 RX8 220 yX8_turnGains cX8_turnGains 6 (some .int) (kw_X8_turnGains :: WU) rm_X8_turnGains 0 0 3 := cwV 3 hts (gV qm_8_220 qi_X8_turnGains ql_X8_turnGains qn_8 qc_X8_turnGains) rfl rfl rfl (by decide +kernel) ⟨Nat.le_of_ble_eq_true rfl, Nat.le_of_ble_eq_true rfl⟩
theorem u_X8_findsBest_X8_finds_223 {s : State} {args : Array Value} (hts : ∀ w ∈ WU, w.before args s = true) : CallW rm_X8_findsBest s args RX8 RX8 223 yX8_finds cX8_finds 6 none (kw_X8_finds :: WU) rm_X8_finds 0 0 5 := cwV 5 hts (gV qm_8_223 qi_X8_finds ql_X8_finds qn_8 qc_X8_finds) rfl rfl rfl (by decide +kernel) ⟨Nat.le_of_ble_eq_true rfl, Nat.le_of_ble_eq_true rfl⟩
theorem u_X8_findsBest_X8_roundOf_157 {s : State} {args : Array Value} (hts : ∀ w ∈ WU, w.before args s = true) : CallW rm_X8_findsBest s args RX8 RX8 157 yX8_roundOf cX8_roundOf 3 (some .int) (kw_X8_roundOf :: WU) rm_X8_roundOf 0 0 1 := cwV 1 hts (gV qm_8_157 qi_X8_roundOf ql_X8_roundOf qn_8 qc_X8_roundOf) rfl rfl rfl (by decide +kernel) ⟨Nat.le_of_ble_eq_true rfl, Nat.le_of_ble_eq_true rfl⟩
theorem u_X8_findsBest_X8_stopAt_78 {s : State} {args : Array Value} (hts : ∀ w ∈ WU, w.before args s = true) : CallW rm_X8_findsBest s args RX8 RX8 78 yX8_stopAt cX8_stopAt 3 (some .int) (kw_X8_stopAt :: WU) rm_X8_stopAt 0 0 2 := cwV 2 hts (gV qm_8_78 qi_X8_stopAt ql_X8_stopAt qn_8 qc_X8_stopAt) rfl rfl rfl (by decide +kernel) ⟨Nat.le_of_ble_eq_true rfl, Nat.le_of_ble_eq_true rfl⟩
theorem u_X8_findsBest_X8_placeIn_66 {s : State} {args : Array Value} (hts : ∀ w ∈ WU, w.before args s = true) : CallW rm_X8_findsBest s args RX8 RX8 66 yX8_placeIn cX8_placeIn 4 (some .int) (kw_X8_placeIn :: WU) rm_X8_placeIn 0 0 2 := cwV 2 hts (gV qm_8_66 qi_X8_placeIn ql_X8_placeIn qn_8 qc_X8_placeIn) rfl rfl rfl (by decide +kernel) ⟨Nat.le_of_ble_eq_true rfl, Nat.le_of_ble_eq_true rfl⟩
theorem u_X8_findsBest_X8_shiftGains_227 {s : State} {args : Array Value} (hts : ∀ w ∈ WU, w.before args s = true) : CallW rm_X8_findsBest s args RX8 RX8 227 yX8_shiftGains cX8_shiftGains 8 (some .int) (kw_X8_shiftGains :: WU) rm_X8_shiftGains 0 0 3 := cwV 3 hts (gV qm_8_227 qi_X8_shiftGains ql_X8_shiftGains qn_8 qc_X8_shiftGains) rfl rfl rfl (by decide +kernel) ⟨Nat.le_of_ble_eq_true rfl, Nat.le_of_ble_eq_true rfl⟩
theorem u_X8_findsBest_X8_swapGains_230 {s : State} {args : Array Value} (hts : ∀ w ∈ WU, w.before args s = true) : CallW rm_X8_findsBest s args RX8 RX8 230 yX8_swapGains cX8_swapGains 7 (some .int) (kw_X8_swapGains :: WU) rm_X8_swapGains 0 0 2 := cwV 2 hts (gV qm_8_230 qi_X8_swapGains ql_X8_swapGains qn_8 qc_X8_swapGains) rfl rfl rfl (by decide +kernel) ⟨Nat.le_of_ble_eq_true rfl, Nat.le_of_ble_eq_true rfl⟩
section
variable {p : Program} {l : Launch} {e : Env} {s : State} {m : MethodId} {args : Array Value} {below : List Frame} {meth : Method} {c : Code} {A : Nat → Prop} {G : GE} {a_t a_t_s a_t_image a_t_mind a_t_aside a_t_text a_t_read a_t_comes a_t_begins a_t_latest a_t_move a_t_sort a_t_items a_t_cell a_t_carried : Nat} {r : Int32} {z_t_s : Nat → Int32} {z_t_comes : Nat → Int32} {z_t_begins : Nat → Int32} {z_t_back : Int32} {z_t_waits : Int32} {z_t_loads : Int32} {z_t_move : Nat → Int32}
set_option maxRecDepth 100000 in
set_option maxHeartbeats 4000000 in
theorem k_X8_findsBest_229 (C : Cx p s m args meth c cX8_findsBest (some .boolean) 7 RX8 G A) (t_isKept : Int32) (t_work : Int32) (t_kind : Int32) (t_letters : Int32) (t_at : Int32) (t_fault : Int32) (t_back : Int32) (t_waits : Int32) (t_miles : Int32) (t_loads : Int32) (t_bestRound : Int32) (t_bestPlace : Int32) (t_bestAdds : Int32) (t_regret : Int32) (t_z : Int32) (t_s : Nat → Int32) (t_comes : Nat → Int32) (t_begins : Nat → Int32) (t_move : Nat → Int32) (x1 : Int32) (x2 : Int32) (k215 : Int32 × (Nat → Int32) × (Nat → Int32) × (Nat → Int32) × Int32 × Int32 × Int32 × (Nat → Int32) → Option (Int32 × (Nat → Int32) × (Nat → Int32) × (Nat → Int32) × Int32 × Int32 × Int32 × (Nat → Int32))) (hk215 : ∀ {H : Heap} {locs : List Loc} {ls : Array Slot} (x1' : Int32) (t_s' : Nat → Int32) (t_comes' : Nat → Int32) (t_begins' : Nat → Int32) (t_back' : Int32) (t_waits' : Int32) (t_loads' : Int32) (t_move' : Nat → Int32), k215 (x1', t_s', t_comes', t_begins', t_back', t_waits', t_loads', t_move') = some (r, z_t_s, z_t_comes, z_t_begins, z_t_back, z_t_waits, z_t_loads, z_t_move) → St G A s.heap H locs (w_X8_findsBest G a_t a_t_s a_t_image a_t_mind a_t_aside a_t_text a_t_read a_t_comes a_t_begins a_t_latest a_t_move a_t_sort a_t_items a_t_cell a_t_carried t_isKept t_work t_kind t_letters t_at t_fault t_back' t_waits' t_miles t_loads' t_bestRound t_bestPlace t_bestAdds t_regret t_z t_s' t_comes' t_begins' t_move') → lv_has ls 7 [(0, .ref a_t), (1, .int x1')] → W p l e rm_X8_findsBest s m args below meth c H locs 0 0 (QI G below args s A r (w_X8_findsBest G a_t a_t_s a_t_image a_t_mind a_t_aside a_t_text a_t_read a_t_comes a_t_begins a_t_latest a_t_move a_t_sort a_t_items a_t_cell a_t_carried t_isKept t_work t_kind t_letters t_at t_fault z_t_back z_t_waits t_miles z_t_loads t_bestRound t_bestPlace t_bestAdds t_regret t_z z_t_s z_t_comes z_t_begins z_t_move)) (F0 m 215 ls [])) (k229 : Int32 × (Nat → Int32) × (Nat → Int32) × (Nat → Int32) × Int32 × Int32 × Int32 × (Nat → Int32) → Option (Int32 × (Nat → Int32) × (Nat → Int32) × (Nat → Int32) × Int32 × Int32 × Int32 × (Nat → Int32))) (hk229 : ∀ {H : Heap} {locs : List Loc} {ls : Array Slot} (x2' : Int32) (t_s' : Nat → Int32) (t_comes' : Nat → Int32) (t_begins' : Nat → Int32) (t_back' : Int32) (t_waits' : Int32) (t_loads' : Int32) (t_move' : Nat → Int32), k229 (x2', t_s', t_comes', t_begins', t_back', t_waits', t_loads', t_move') = some (r, z_t_s, z_t_comes, z_t_begins, z_t_back, z_t_waits, z_t_loads, z_t_move) → St G A s.heap H locs (w_X8_findsBest G a_t a_t_s a_t_image a_t_mind a_t_aside a_t_text a_t_read a_t_comes a_t_begins a_t_latest a_t_move a_t_sort a_t_items a_t_cell a_t_carried t_isKept t_work t_kind t_letters t_at t_fault t_back' t_waits' t_miles t_loads' t_bestRound t_bestPlace t_bestAdds t_regret t_z t_s' t_comes' t_begins' t_move') → lv_has ls 7 [(0, .ref a_t), (1, .int x1), (2, .int x2')] → W p l e rm_X8_findsBest s m args below meth c H locs 0 0 (QI G below args s A r (w_X8_findsBest G a_t a_t_s a_t_image a_t_mind a_t_aside a_t_text a_t_read a_t_comes a_t_begins a_t_latest a_t_move a_t_sort a_t_items a_t_cell a_t_carried t_isKept t_work t_kind t_letters t_at t_fault z_t_back z_t_waits t_miles z_t_loads t_bestRound t_bestPlace t_bestAdds t_regret t_z z_t_s z_t_comes z_t_begins z_t_move)) (F0 m 229 ls [])) {H : Heap} {locs : List Loc} {ls : Array Slot} (hf : b_X8_findsBest_229 k215 x1 k229 x2 t_s t_comes t_begins t_back t_waits t_loads t_move = some (r, z_t_s, z_t_comes, z_t_begins, z_t_back, z_t_waits, z_t_loads, z_t_move)) (S : St G A s.heap H locs (w_X8_findsBest G a_t a_t_s a_t_image a_t_mind a_t_aside a_t_text a_t_read a_t_comes a_t_begins a_t_latest a_t_move a_t_sort a_t_items a_t_cell a_t_carried t_isKept t_work t_kind t_letters t_at t_fault t_back t_waits t_miles t_loads t_bestRound t_bestPlace t_bestAdds t_regret t_z t_s t_comes t_begins t_move)) (hl : lv_has ls 7 [(0, .ref a_t), (1, .int x1), (2, .int x2)]) : W p l e rm_X8_findsBest s m args below meth c H locs 0 0 (QI G below args s A r (w_X8_findsBest G a_t a_t_s a_t_image a_t_mind a_t_aside a_t_text a_t_read a_t_comes a_t_begins a_t_latest a_t_move a_t_sort a_t_items a_t_cell a_t_carried t_isKept t_work t_kind t_letters t_at t_fault z_t_back z_t_waits t_miles z_t_loads t_bestRound t_bestPlace t_bestAdds t_regret t_z z_t_s z_t_comes z_t_begins z_t_move)) (F0 m 229 ls []) := by
  unfold b_X8_findsBest_229 at hf
  have hx := C.1
  have hb := C.2.1
  have hown := C.2.2.2.2.1
  have hts := C.2.2.2.2.2.1
  have hN := C.2.2.2.2.2.2.2.2.2.2
  refine lv_iload_n (pc := 229) hx hb dX8_findsBest_229 rfl (lv_at hl 2 rfl) ?_
  refine lv_aload_n (pc := 230) hx hb dX8_findsBest_230 rfl (lv_at hl 0 rfl) ?_
  refine x_get (pc := 231) (ci := 8) (T := TX8) (v := .ref a_t_s) C S 0 rfl rfl inlX8 0 (by decide) rfl qf_8_11 rfl dX8_findsBest_231 ?_
  refine lv_iconst (pc := 234) hx hb dX8_findsBest_234 ic_4 ?_
  refine x_iald (pc := 235) C S 1 rfl (vp_in_iff.mpr (by decide)) dX8_findsBest_235 ?_
  refine lv_icmp_ge (tgt := 276) (pc := 236) hx hb dX8_findsBest_236 (by decide) (fun c1 => ?_) (fun c1 => ?_)
  · have hf := ifp c1 hf
    refine lv_iinc (pc := 276) (v := (x1 + (1 : Int32))) (lv' := [(1, .int (x1 + (1 : Int32))), (0, .ref a_t), (2, .int x2)]) hx hb dX8_findsBest_276 hl (k := 1) rfl (congrArg (fun z => x1 + z) ic_1) (by decide) rfl (fun ls hl => ?_)
    refine lv_goto (tgt := 215) (pc := 279) hx hb dX8_findsBest_279 (by decide) ?_
    exact hk215 ((x1 + (1 : Int32))) (t_s) (t_comes) (t_begins) (t_back) (t_waits) (t_loads) (t_move)  hf S (lv_sub hl [1, 0] rfl)
  · have hf := ifn c1 hf
    refine lv_aload_n (pc := 239) hx hb dX8_findsBest_239 rfl (lv_at hl 0 rfl) ?_
    refine lv_iload_n (pc := 240) hx hb dX8_findsBest_240 rfl (lv_at hl 1 rfl) ?_
    obtain ⟨r2, hq2, hf⟩ := bd_e hf
    refine x_vI (pc := 241) (As := [.int x1]) (rest := []) (isC := [0, 1]) (ws' := (w_X8_findsBest G a_t a_t_s a_t_image a_t_mind a_t_aside a_t_text a_t_read a_t_comes a_t_begins a_t_latest a_t_move a_t_sort a_t_items a_t_cell a_t_carried t_isKept t_work t_kind t_letters t_at t_fault t_back t_waits t_miles t_loads t_bestRound t_bestPlace t_bestAdds t_regret t_z t_s t_comes t_begins t_move)) C S (c_X8_roundOf l G a_t a_t_s a_t_image a_t_mind a_t_aside a_t_text a_t_read a_t_comes a_t_begins a_t_latest a_t_move a_t_sort a_t_items a_t_cell a_t_carried t_isKept t_work t_kind t_letters t_at t_fault t_back t_waits t_miles t_loads t_bestRound t_bestPlace t_bestAdds t_regret t_z t_s x1 r2 hq2) (u_X8_findsBest_X8_roundOf_157 hts) (ci := 8) rfl 0 rfl rfl (by decide +kernel) [some 0, some 1, none, none, none] (by decide +kernel) rfl rfl rfl hl.1 rfl (Nat.le_of_ble_eq_true rfl) dX8_findsBest_241 (fun H locs S => ?_)
    refine lv_if_lt (tgt := 270) (pc := 244) hx hb dX8_findsBest_244 (by decide) (fun c3 => ?_) (fun c3 => ?_)
    · have hf := ifp c3 hf
      refine lv_iinc (pc := 270) (v := (x2 + (1 : Int32))) (lv' := [(2, .int (x2 + (1 : Int32))), (0, .ref a_t), (1, .int x1)]) hx hb dX8_findsBest_270 hl (k := 2) rfl (congrArg (fun z => x2 + z) ic_1) (by decide) rfl (fun ls hl => ?_)
      refine lv_goto (tgt := 229) (pc := 273) hx hb dX8_findsBest_273 (by decide) ?_
      exact hk229 ((x2 + (1 : Int32))) (t_s) (t_comes) (t_begins) (t_back) (t_waits) (t_loads) (t_move)  hf S (lv_sub hl [1, 2, 0] rfl)
    · have hf := ifn c3 hf
      refine lv_aload_n (pc := 247) hx hb dX8_findsBest_247 rfl (lv_at hl 0 rfl) ?_
      refine lv_iload_n (pc := 248) hx hb dX8_findsBest_248 rfl (lv_at hl 2 rfl) ?_
      obtain ⟨r4, hq4, hf⟩ := bd_e hf
      refine x_vI (pc := 249) (As := [.int x2]) (rest := []) (isC := [0, 1]) (ws' := (w_X8_findsBest G a_t a_t_s a_t_image a_t_mind a_t_aside a_t_text a_t_read a_t_comes a_t_begins a_t_latest a_t_move a_t_sort a_t_items a_t_cell a_t_carried t_isKept t_work t_kind t_letters t_at t_fault t_back t_waits t_miles t_loads t_bestRound t_bestPlace t_bestAdds t_regret t_z t_s t_comes t_begins t_move)) C S (c_X8_roundOf l G a_t a_t_s a_t_image a_t_mind a_t_aside a_t_text a_t_read a_t_comes a_t_begins a_t_latest a_t_move a_t_sort a_t_items a_t_cell a_t_carried t_isKept t_work t_kind t_letters t_at t_fault t_back t_waits t_miles t_loads t_bestRound t_bestPlace t_bestAdds t_regret t_z t_s x2 r4 hq4) (u_X8_findsBest_X8_roundOf_157 hts) (ci := 8) rfl 0 rfl rfl (by decide +kernel) [some 0, some 1, none, none, none] (by decide +kernel) rfl rfl rfl hl.1 rfl (Nat.le_of_ble_eq_true rfl) dX8_findsBest_249 (fun H locs S => ?_)
      refine lv_if_lt (tgt := 270) (pc := 252) hx hb dX8_findsBest_252 (by decide) (fun c5 => ?_) (fun c5 => ?_)
      · have hf := ifp c5 hf
        refine lv_iinc (pc := 270) (v := (x2 + (1 : Int32))) (lv' := [(2, .int (x2 + (1 : Int32))), (0, .ref a_t), (1, .int x1)]) hx hb dX8_findsBest_270 hl (k := 2) rfl (congrArg (fun z => x2 + z) ic_1) (by decide) rfl (fun ls hl => ?_)
        refine lv_goto (tgt := 229) (pc := 273) hx hb dX8_findsBest_273 (by decide) ?_
        exact hk229 ((x2 + (1 : Int32))) (t_s) (t_comes) (t_begins) (t_back) (t_waits) (t_loads) (t_move)  hf S (lv_sub hl [1, 2, 0] rfl)
      · have hf := ifn c5 hf
        refine lv_aload_n (pc := 255) hx hb dX8_findsBest_255 rfl (lv_at hl 0 rfl) ?_
        refine lv_iconst (pc := 256) hx hb dX8_findsBest_256 ic_3 ?_
        refine lv_aload_n (pc := 257) hx hb dX8_findsBest_257 rfl (lv_at hl 0 rfl) ?_
        refine lv_iload_n (pc := 258) hx hb dX8_findsBest_258 rfl (lv_at hl 1 rfl) ?_
        refine lv_iload_n (pc := 259) hx hb dX8_findsBest_259 rfl (lv_at hl 2 rfl) ?_
        obtain ⟨⟨r6, o6_t_s, o6_t_comes, o6_t_begins, o6_t_back, o6_t_waits, o6_t_loads⟩, hq6, hf⟩ := bd_e hf
        refine x_vI (pc := 260) (As := [.int x1, .int x2]) (rest := [.int (3 : Int32), .ref a_t]) (isC := [0, 1, 2, 3]) (ws' := (w_X8_findsBest G a_t a_t_s a_t_image a_t_mind a_t_aside a_t_text a_t_read a_t_comes a_t_begins a_t_latest a_t_move a_t_sort a_t_items a_t_cell a_t_carried t_isKept t_work t_kind t_letters t_at t_fault o6_t_back o6_t_waits t_miles o6_t_loads t_bestRound t_bestPlace t_bestAdds t_regret t_z o6_t_s o6_t_comes o6_t_begins t_move)) C S (c_X8_swapGains l G a_t a_t_s a_t_image a_t_mind a_t_aside a_t_text a_t_read a_t_comes a_t_begins a_t_latest a_t_move a_t_sort a_t_items a_t_cell a_t_carried t_isKept t_work t_kind t_letters t_at t_fault t_back t_waits t_miles t_loads t_bestRound t_bestPlace t_bestAdds t_regret t_z t_s t_comes t_begins x1 x2 r6 o6_t_s o6_t_comes o6_t_begins o6_t_back o6_t_waits o6_t_loads hq6) (u_X8_findsBest_X8_swapGains_230 hts) (ci := 8) rfl 0 rfl rfl (by decide +kernel) [some 0, some 1, some 2, some 3, none] (by decide +kernel) rfl rfl rfl hl.1 rfl (Nat.le_of_ble_eq_true rfl) dX8_findsBest_260 (fun H locs S => ?_)
        refine lv_iload_n (pc := 263) hx hb dX8_findsBest_263 rfl (lv_at hl 1 rfl) ?_
        refine lv_iload_n (pc := 264) hx hb dX8_findsBest_264 rfl (lv_at hl 2 rfl) ?_
        refine lv_bipush (pc := 265) hx hb dX8_findsBest_265 bc_m5 ?_
        obtain ⟨o7_t_move, hq7, hf⟩ := bd_e hf
        refine x_vV (pc := 267) (As := [.int (3 : Int32), .int r6, .int x1, .int x2, .int (-5 : Int32)]) (rest := []) (isC := [0, 4]) (ws' := (w_X8_findsBest G a_t a_t_s a_t_image a_t_mind a_t_aside a_t_text a_t_read a_t_comes a_t_begins a_t_latest a_t_move a_t_sort a_t_items a_t_cell a_t_carried t_isKept t_work t_kind t_letters t_at t_fault o6_t_back o6_t_waits t_miles o6_t_loads t_bestRound t_bestPlace t_bestAdds t_regret t_z o6_t_s o6_t_comes o6_t_begins o7_t_move)) C S (c_X8_finds l G a_t a_t_s a_t_image a_t_mind a_t_aside a_t_text a_t_read a_t_comes a_t_begins a_t_latest a_t_move a_t_sort a_t_items a_t_cell a_t_carried t_isKept t_work t_kind t_letters t_at t_fault o6_t_back o6_t_waits t_miles o6_t_loads t_bestRound t_bestPlace t_bestAdds t_regret t_z t_move (3 : Int32) r6 x1 x2 (-5 : Int32) o7_t_move hq7) (u_X8_findsBest_X8_finds_223 hts) (ci := 8) rfl 0 rfl rfl (by decide +kernel) [some 0, none, none, none, some 1] (by decide +kernel) rfl rfl rfl hl.1 rfl (Nat.le_of_ble_eq_true rfl) dX8_findsBest_267 (fun H locs S => ?_)
        refine lv_iinc (pc := 270) (v := (x2 + (1 : Int32))) (lv' := [(2, .int (x2 + (1 : Int32))), (0, .ref a_t), (1, .int x1)]) hx hb dX8_findsBest_270 hl (k := 2) rfl (congrArg (fun z => x2 + z) ic_1) (by decide) rfl (fun ls hl => ?_)
        refine lv_goto (tgt := 229) (pc := 273) hx hb dX8_findsBest_273 (by decide) ?_
        exact hk229 ((x2 + (1 : Int32))) (o6_t_s) (o6_t_comes) (o6_t_begins) (o6_t_back) (o6_t_waits) (o6_t_loads) (o7_t_move)  hf S (lv_sub hl [1, 2, 0] rfl)
set_option maxRecDepth 100000 in
set_option maxHeartbeats 4000000 in
theorem h_X8_findsBest_229 (C : Cx p s m args meth c cX8_findsBest (some .boolean) 7 RX8 G A) (t_isKept : Int32) (t_work : Int32) (t_kind : Int32) (t_letters : Int32) (t_at : Int32) (t_fault : Int32) (t_miles : Int32) (t_bestRound : Int32) (t_bestPlace : Int32) (t_bestAdds : Int32) (t_regret : Int32) (t_z : Int32) (x1 : Int32) (k215 : Int32 × (Nat → Int32) × (Nat → Int32) × (Nat → Int32) × Int32 × Int32 × Int32 × (Nat → Int32) → Option (Int32 × (Nat → Int32) × (Nat → Int32) × (Nat → Int32) × Int32 × Int32 × Int32 × (Nat → Int32))) (hk215 : ∀ {H : Heap} {locs : List Loc} {ls : Array Slot} (x1' : Int32) (t_s' : Nat → Int32) (t_comes' : Nat → Int32) (t_begins' : Nat → Int32) (t_back' : Int32) (t_waits' : Int32) (t_loads' : Int32) (t_move' : Nat → Int32), k215 (x1', t_s', t_comes', t_begins', t_back', t_waits', t_loads', t_move') = some (r, z_t_s, z_t_comes, z_t_begins, z_t_back, z_t_waits, z_t_loads, z_t_move) → St G A s.heap H locs (w_X8_findsBest G a_t a_t_s a_t_image a_t_mind a_t_aside a_t_text a_t_read a_t_comes a_t_begins a_t_latest a_t_move a_t_sort a_t_items a_t_cell a_t_carried t_isKept t_work t_kind t_letters t_at t_fault t_back' t_waits' t_miles t_loads' t_bestRound t_bestPlace t_bestAdds t_regret t_z t_s' t_comes' t_begins' t_move') → lv_has ls 7 [(0, .ref a_t), (1, .int x1')] → W p l e rm_X8_findsBest s m args below meth c H locs 0 0 (QI G below args s A r (w_X8_findsBest G a_t a_t_s a_t_image a_t_mind a_t_aside a_t_text a_t_read a_t_comes a_t_begins a_t_latest a_t_move a_t_sort a_t_items a_t_cell a_t_carried t_isKept t_work t_kind t_letters t_at t_fault z_t_back z_t_waits t_miles z_t_loads t_bestRound t_bestPlace t_bestAdds t_regret t_z z_t_s z_t_comes z_t_begins z_t_move)) (F0 m 215 ls [])) : ∀ (n : Nat) (x2 : Int32) (t_s : Nat → Int32) (t_comes : Nat → Int32) (t_begins : Nat → Int32) (t_back : Int32) (t_waits : Int32) (t_loads : Int32) (t_move : Nat → Int32) {H : Heap} {locs : List Loc} {ls : Array Slot} (hf : lp (fun k x => b_X8_findsBest_229 k215 x1 k x.1 x.2.1 x.2.2.1 x.2.2.2.1 x.2.2.2.2.1 x.2.2.2.2.2.1 x.2.2.2.2.2.2.1 x.2.2.2.2.2.2.2) n (x2, t_s, t_comes, t_begins, t_back, t_waits, t_loads, t_move) = some (r, z_t_s, z_t_comes, z_t_begins, z_t_back, z_t_waits, z_t_loads, z_t_move)) (S : St G A s.heap H locs (w_X8_findsBest G a_t a_t_s a_t_image a_t_mind a_t_aside a_t_text a_t_read a_t_comes a_t_begins a_t_latest a_t_move a_t_sort a_t_items a_t_cell a_t_carried t_isKept t_work t_kind t_letters t_at t_fault t_back t_waits t_miles t_loads t_bestRound t_bestPlace t_bestAdds t_regret t_z t_s t_comes t_begins t_move)) (hl : lv_has ls 7 [(0, .ref a_t), (1, .int x1), (2, .int x2)]), W p l e rm_X8_findsBest s m args below meth c H locs 0 0 (QI G below args s A r (w_X8_findsBest G a_t a_t_s a_t_image a_t_mind a_t_aside a_t_text a_t_read a_t_comes a_t_begins a_t_latest a_t_move a_t_sort a_t_items a_t_cell a_t_carried t_isKept t_work t_kind t_letters t_at t_fault z_t_back z_t_waits t_miles z_t_loads t_bestRound t_bestPlace t_bestAdds t_regret t_z z_t_s z_t_comes z_t_begins z_t_move)) (F0 m 229 ls []) := by
  intro n
  induction n with
  | zero =>
    intro x2 t_s t_comes t_begins t_back t_waits t_loads t_move  H locs ls hf
    cases hf
  | succ n ih =>
    intro x2 t_s t_comes t_begins t_back t_waits t_loads t_move  H locs ls hf S hl
    have hf : b_X8_findsBest_229 k215 x1 (lp (fun k x => b_X8_findsBest_229 k215 x1 k x.1 x.2.1 x.2.2.1 x.2.2.2.1 x.2.2.2.2.1 x.2.2.2.2.2.1 x.2.2.2.2.2.2.1 x.2.2.2.2.2.2.2) n) x2 t_s t_comes t_begins t_back t_waits t_loads t_move = some (r, z_t_s, z_t_comes, z_t_begins, z_t_back, z_t_waits, z_t_loads, z_t_move) := hf
    exact k_X8_findsBest_229 C t_isKept t_work t_kind t_letters t_at t_fault t_back t_waits t_miles t_loads t_bestRound t_bestPlace t_bestAdds t_regret t_z t_s t_comes t_begins t_move x1 x2  k215 hk215 (lp (fun k x => b_X8_findsBest_229 k215 x1 k x.1 x.2.1 x.2.2.1 x.2.2.2.1 x.2.2.2.2.1 x.2.2.2.2.2.1 x.2.2.2.2.2.2.1 x.2.2.2.2.2.2.2) n) (fun x2' t_s' t_comes' t_begins' t_back' t_waits' t_loads' t_move'  h S hl => ih x2' t_s' t_comes' t_begins' t_back' t_waits' t_loads' t_move'  h S hl) hf S hl
set_option maxRecDepth 100000 in
set_option maxHeartbeats 4000000 in
theorem k_X8_findsBest_215 (C : Cx p s m args meth c cX8_findsBest (some .boolean) 7 RX8 G A) (t_isKept : Int32) (t_work : Int32) (t_kind : Int32) (t_letters : Int32) (t_at : Int32) (t_fault : Int32) (t_back : Int32) (t_waits : Int32) (t_miles : Int32) (t_loads : Int32) (t_bestRound : Int32) (t_bestPlace : Int32) (t_bestAdds : Int32) (t_regret : Int32) (t_z : Int32) (t_s : Nat → Int32) (t_comes : Nat → Int32) (t_begins : Nat → Int32) (t_move : Nat → Int32) (x1 : Int32) (k215 : Int32 × (Nat → Int32) × (Nat → Int32) × (Nat → Int32) × Int32 × Int32 × Int32 × (Nat → Int32) → Option (Int32 × (Nat → Int32) × (Nat → Int32) × (Nat → Int32) × Int32 × Int32 × Int32 × (Nat → Int32))) (hk215 : ∀ {H : Heap} {locs : List Loc} {ls : Array Slot} (x1' : Int32) (t_s' : Nat → Int32) (t_comes' : Nat → Int32) (t_begins' : Nat → Int32) (t_back' : Int32) (t_waits' : Int32) (t_loads' : Int32) (t_move' : Nat → Int32), k215 (x1', t_s', t_comes', t_begins', t_back', t_waits', t_loads', t_move') = some (r, z_t_s, z_t_comes, z_t_begins, z_t_back, z_t_waits, z_t_loads, z_t_move) → St G A s.heap H locs (w_X8_findsBest G a_t a_t_s a_t_image a_t_mind a_t_aside a_t_text a_t_read a_t_comes a_t_begins a_t_latest a_t_move a_t_sort a_t_items a_t_cell a_t_carried t_isKept t_work t_kind t_letters t_at t_fault t_back' t_waits' t_miles t_loads' t_bestRound t_bestPlace t_bestAdds t_regret t_z t_s' t_comes' t_begins' t_move') → lv_has ls 7 [(0, .ref a_t), (1, .int x1')] → W p l e rm_X8_findsBest s m args below meth c H locs 0 0 (QI G below args s A r (w_X8_findsBest G a_t a_t_s a_t_image a_t_mind a_t_aside a_t_text a_t_read a_t_comes a_t_begins a_t_latest a_t_move a_t_sort a_t_items a_t_cell a_t_carried t_isKept t_work t_kind t_letters t_at t_fault z_t_back z_t_waits t_miles z_t_loads t_bestRound t_bestPlace t_bestAdds t_regret t_z z_t_s z_t_comes z_t_begins z_t_move)) (F0 m 215 ls [])) {H : Heap} {locs : List Loc} {ls : Array Slot} (hf : b_X8_findsBest_215 k215 x1 t_s t_comes t_begins t_back t_waits t_loads t_move = some (r, z_t_s, z_t_comes, z_t_begins, z_t_back, z_t_waits, z_t_loads, z_t_move)) (S : St G A s.heap H locs (w_X8_findsBest G a_t a_t_s a_t_image a_t_mind a_t_aside a_t_text a_t_read a_t_comes a_t_begins a_t_latest a_t_move a_t_sort a_t_items a_t_cell a_t_carried t_isKept t_work t_kind t_letters t_at t_fault t_back t_waits t_miles t_loads t_bestRound t_bestPlace t_bestAdds t_regret t_z t_s t_comes t_begins t_move)) (hl : lv_has ls 7 [(0, .ref a_t), (1, .int x1)]) : W p l e rm_X8_findsBest s m args below meth c H locs 0 0 (QI G below args s A r (w_X8_findsBest G a_t a_t_s a_t_image a_t_mind a_t_aside a_t_text a_t_read a_t_comes a_t_begins a_t_latest a_t_move a_t_sort a_t_items a_t_cell a_t_carried t_isKept t_work t_kind t_letters t_at t_fault z_t_back z_t_waits t_miles z_t_loads t_bestRound t_bestPlace t_bestAdds t_regret t_z z_t_s z_t_comes z_t_begins z_t_move)) (F0 m 215 ls []) := by
  unfold b_X8_findsBest_215 at hf
  have hx := C.1
  have hb := C.2.1
  have hown := C.2.2.2.2.1
  have hts := C.2.2.2.2.2.1
  have hN := C.2.2.2.2.2.2.2.2.2.2
  refine lv_iload_n (pc := 215) hx hb dX8_findsBest_215 rfl (lv_at hl 1 rfl) ?_
  refine lv_aload_n (pc := 216) hx hb dX8_findsBest_216 rfl (lv_at hl 0 rfl) ?_
  refine x_get (pc := 217) (ci := 8) (T := TX8) (v := .ref a_t_s) C S 0 rfl rfl inlX8 0 (by decide) rfl qf_8_11 rfl dX8_findsBest_217 ?_
  refine lv_iconst (pc := 220) hx hb dX8_findsBest_220 ic_4 ?_
  refine x_iald (pc := 221) C S 1 rfl (vp_in_iff.mpr (by decide)) dX8_findsBest_221 ?_
  refine lv_icmp_ge (tgt := 282) (pc := 222) hx hb dX8_findsBest_222 (by decide) (fun c1 => ?_) (fun c1 => ?_)
  · have hf := ifp c1 hf
    refine lv_aload_n (pc := 282) hx hb dX8_findsBest_282 rfl (lv_at hl 0 rfl) ?_
    refine x_get (pc := 283) (ci := 8) (T := TX8) (v := .ref a_t_move) C S 0 rfl rfl inlX8 23 (by decide) rfl qf_8_39 rfl dX8_findsBest_283 ?_
    refine lv_iconst (pc := 286) hx hb dX8_findsBest_286 ic_0 ?_
    refine x_iald (pc := 287) C S 4 rfl (vp_in_iff.mpr (by decide)) dX8_findsBest_287 ?_
    refine lv_if_le (tgt := 295) (pc := 288) hx hb dX8_findsBest_288 (by decide) (fun c2 => ?_) (fun c2 => ?_)
    · have hf := ifp c2 hf
      refine lv_iconst (pc := 295) hx hb dX8_findsBest_295 ic_0 ?_
      cases hf
      exact x_zret (pc := 296) (by decide) C S dX8_findsBest_296
    · have hf := ifn c2 hf
      refine lv_iconst (pc := 291) hx hb dX8_findsBest_291 ic_1 ?_
      refine lv_goto (tgt := 296) (pc := 292) hx hb dX8_findsBest_292 (by decide) ?_
      cases hf
      exact x_zret (pc := 296) (by decide) C S dX8_findsBest_296
  · have hf := ifn c1 hf
    refine lv_iload_n (pc := 225) hx hb dX8_findsBest_225 rfl (lv_at hl 1 rfl) ?_
    refine lv_iconst (pc := 226) hx hb dX8_findsBest_226 ic_1 ?_
    refine lv_iadd (pc := 227) hx hb dX8_findsBest_227 ?_
    refine lv_istore_n (pc := 228) (lv' := [(2, .int (x1 + (1 : Int32))), (0, .ref a_t), (1, .int x1)]) hx hb dX8_findsBest_228 rfl hl (by decide) rfl (fun ls hl => ?_)
    exact h_X8_findsBest_229 C (t_isKept) (t_work) (t_kind) (t_letters) (t_at) (t_fault) (t_miles) (t_bestRound) (t_bestPlace) (t_bestAdds) (t_regret) (t_z) (x1) k215 hk215 fu ((x1 + (1 : Int32))) (t_s) (t_comes) (t_begins) (t_back) (t_waits) (t_loads) (t_move) hf S (lv_sub hl [1, 2, 0] rfl)
set_option maxRecDepth 100000 in
set_option maxHeartbeats 4000000 in
theorem h_X8_findsBest_215 (C : Cx p s m args meth c cX8_findsBest (some .boolean) 7 RX8 G A) (t_isKept : Int32) (t_work : Int32) (t_kind : Int32) (t_letters : Int32) (t_at : Int32) (t_fault : Int32) (t_miles : Int32) (t_bestRound : Int32) (t_bestPlace : Int32) (t_bestAdds : Int32) (t_regret : Int32) (t_z : Int32) : ∀ (n : Nat) (x1 : Int32) (t_s : Nat → Int32) (t_comes : Nat → Int32) (t_begins : Nat → Int32) (t_back : Int32) (t_waits : Int32) (t_loads : Int32) (t_move : Nat → Int32) {H : Heap} {locs : List Loc} {ls : Array Slot} (hf : lp (fun k x => b_X8_findsBest_215 k x.1 x.2.1 x.2.2.1 x.2.2.2.1 x.2.2.2.2.1 x.2.2.2.2.2.1 x.2.2.2.2.2.2.1 x.2.2.2.2.2.2.2) n (x1, t_s, t_comes, t_begins, t_back, t_waits, t_loads, t_move) = some (r, z_t_s, z_t_comes, z_t_begins, z_t_back, z_t_waits, z_t_loads, z_t_move)) (S : St G A s.heap H locs (w_X8_findsBest G a_t a_t_s a_t_image a_t_mind a_t_aside a_t_text a_t_read a_t_comes a_t_begins a_t_latest a_t_move a_t_sort a_t_items a_t_cell a_t_carried t_isKept t_work t_kind t_letters t_at t_fault t_back t_waits t_miles t_loads t_bestRound t_bestPlace t_bestAdds t_regret t_z t_s t_comes t_begins t_move)) (hl : lv_has ls 7 [(0, .ref a_t), (1, .int x1)]), W p l e rm_X8_findsBest s m args below meth c H locs 0 0 (QI G below args s A r (w_X8_findsBest G a_t a_t_s a_t_image a_t_mind a_t_aside a_t_text a_t_read a_t_comes a_t_begins a_t_latest a_t_move a_t_sort a_t_items a_t_cell a_t_carried t_isKept t_work t_kind t_letters t_at t_fault z_t_back z_t_waits t_miles z_t_loads t_bestRound t_bestPlace t_bestAdds t_regret t_z z_t_s z_t_comes z_t_begins z_t_move)) (F0 m 215 ls []) := by
  intro n
  induction n with
  | zero =>
    intro x1 t_s t_comes t_begins t_back t_waits t_loads t_move  H locs ls hf
    cases hf
  | succ n ih =>
    intro x1 t_s t_comes t_begins t_back t_waits t_loads t_move  H locs ls hf S hl
    have hf : b_X8_findsBest_215 (lp (fun k x => b_X8_findsBest_215 k x.1 x.2.1 x.2.2.1 x.2.2.2.1 x.2.2.2.2.1 x.2.2.2.2.2.1 x.2.2.2.2.2.2.1 x.2.2.2.2.2.2.2) n) x1 t_s t_comes t_begins t_back t_waits t_loads t_move = some (r, z_t_s, z_t_comes, z_t_begins, z_t_back, z_t_waits, z_t_loads, z_t_move) := hf
    exact k_X8_findsBest_215 C t_isKept t_work t_kind t_letters t_at t_fault t_back t_waits t_miles t_loads t_bestRound t_bestPlace t_bestAdds t_regret t_z t_s t_comes t_begins t_move x1  (lp (fun k x => b_X8_findsBest_215 k x.1 x.2.1 x.2.2.1 x.2.2.2.1 x.2.2.2.2.1 x.2.2.2.2.2.1 x.2.2.2.2.2.2.1 x.2.2.2.2.2.2.2) n) (fun x1' t_s' t_comes' t_begins' t_back' t_waits' t_loads' t_move'  h S hl => ih x1' t_s' t_comes' t_begins' t_back' t_waits' t_loads' t_move'  h S hl) hf S hl
set_option maxRecDepth 100000 in
set_option maxHeartbeats 4000000 in
theorem k_X8_findsBest_176 (C : Cx p s m args meth c cX8_findsBest (some .boolean) 7 RX8 G A) (t_isKept : Int32) (t_work : Int32) (t_kind : Int32) (t_letters : Int32) (t_at : Int32) (t_fault : Int32) (t_back : Int32) (t_waits : Int32) (t_miles : Int32) (t_loads : Int32) (t_bestRound : Int32) (t_bestPlace : Int32) (t_bestAdds : Int32) (t_regret : Int32) (t_z : Int32) (t_s : Nat → Int32) (t_comes : Nat → Int32) (t_begins : Nat → Int32) (t_move : Nat → Int32) (x1 : Int32) (x2 : Int32) (x3 : Int32) (x4 : Int32) (x5 : Int32) (x6 : Int32) (k83 : Int32 × (Nat → Int32) × (Nat → Int32) × (Nat → Int32) × Int32 × Int32 × Int32 × (Nat → Int32) → Option (Int32 × (Nat → Int32) × (Nat → Int32) × (Nat → Int32) × Int32 × Int32 × Int32 × (Nat → Int32))) (hk83 : ∀ {H : Heap} {locs : List Loc} {ls : Array Slot} (x1' : Int32) (t_s' : Nat → Int32) (t_comes' : Nat → Int32) (t_begins' : Nat → Int32) (t_back' : Int32) (t_waits' : Int32) (t_loads' : Int32) (t_move' : Nat → Int32), k83 (x1', t_s', t_comes', t_begins', t_back', t_waits', t_loads', t_move') = some (r, z_t_s, z_t_comes, z_t_begins, z_t_back, z_t_waits, z_t_loads, z_t_move) → St G A s.heap H locs (w_X8_findsBest G a_t a_t_s a_t_image a_t_mind a_t_aside a_t_text a_t_read a_t_comes a_t_begins a_t_latest a_t_move a_t_sort a_t_items a_t_cell a_t_carried t_isKept t_work t_kind t_letters t_at t_fault t_back' t_waits' t_miles t_loads' t_bestRound t_bestPlace t_bestAdds t_regret t_z t_s' t_comes' t_begins' t_move') → lv_has ls 7 [(0, .ref a_t), (1, .int x1')] → W p l e rm_X8_findsBest s m args below meth c H locs 0 0 (QI G below args s A r (w_X8_findsBest G a_t a_t_s a_t_image a_t_mind a_t_aside a_t_text a_t_read a_t_comes a_t_begins a_t_latest a_t_move a_t_sort a_t_items a_t_cell a_t_carried t_isKept t_work t_kind t_letters t_at t_fault z_t_back z_t_waits t_miles z_t_loads t_bestRound t_bestPlace t_bestAdds t_regret t_z z_t_s z_t_comes z_t_begins z_t_move)) (F0 m 83 ls [])) (k127 : Int32 × (Nat → Int32) × (Nat → Int32) × (Nat → Int32) × Int32 × Int32 × Int32 × (Nat → Int32) → Option (Int32 × (Nat → Int32) × (Nat → Int32) × (Nat → Int32) × Int32 × Int32 × Int32 × (Nat → Int32))) (hk127 : ∀ {H : Heap} {locs : List Loc} {ls : Array Slot} (x4' : Int32) (t_s' : Nat → Int32) (t_comes' : Nat → Int32) (t_begins' : Nat → Int32) (t_back' : Int32) (t_waits' : Int32) (t_loads' : Int32) (t_move' : Nat → Int32), k127 (x4', t_s', t_comes', t_begins', t_back', t_waits', t_loads', t_move') = some (r, z_t_s, z_t_comes, z_t_begins, z_t_back, z_t_waits, z_t_loads, z_t_move) → St G A s.heap H locs (w_X8_findsBest G a_t a_t_s a_t_image a_t_mind a_t_aside a_t_text a_t_read a_t_comes a_t_begins a_t_latest a_t_move a_t_sort a_t_items a_t_cell a_t_carried t_isKept t_work t_kind t_letters t_at t_fault t_back' t_waits' t_miles t_loads' t_bestRound t_bestPlace t_bestAdds t_regret t_z t_s' t_comes' t_begins' t_move') → lv_has ls 7 [(0, .ref a_t), (1, .int x1), (2, .int x2), (3, .int x3), (4, .int x4')] → W p l e rm_X8_findsBest s m args below meth c H locs 0 0 (QI G below args s A r (w_X8_findsBest G a_t a_t_s a_t_image a_t_mind a_t_aside a_t_text a_t_read a_t_comes a_t_begins a_t_latest a_t_move a_t_sort a_t_items a_t_cell a_t_carried t_isKept t_work t_kind t_letters t_at t_fault z_t_back z_t_waits t_miles z_t_loads t_bestRound t_bestPlace t_bestAdds t_regret t_z z_t_s z_t_comes z_t_begins z_t_move)) (F0 m 127 ls [])) (k157 : Int32 × (Nat → Int32) × (Nat → Int32) × (Nat → Int32) × Int32 × Int32 × Int32 × (Nat → Int32) → Option (Int32 × (Nat → Int32) × (Nat → Int32) × (Nat → Int32) × Int32 × Int32 × Int32 × (Nat → Int32))) (hk157 : ∀ {H : Heap} {locs : List Loc} {ls : Array Slot} (x6' : Int32) (t_s' : Nat → Int32) (t_comes' : Nat → Int32) (t_begins' : Nat → Int32) (t_back' : Int32) (t_waits' : Int32) (t_loads' : Int32) (t_move' : Nat → Int32), k157 (x6', t_s', t_comes', t_begins', t_back', t_waits', t_loads', t_move') = some (r, z_t_s, z_t_comes, z_t_begins, z_t_back, z_t_waits, z_t_loads, z_t_move) → St G A s.heap H locs (w_X8_findsBest G a_t a_t_s a_t_image a_t_mind a_t_aside a_t_text a_t_read a_t_comes a_t_begins a_t_latest a_t_move a_t_sort a_t_items a_t_cell a_t_carried t_isKept t_work t_kind t_letters t_at t_fault t_back' t_waits' t_miles t_loads' t_bestRound t_bestPlace t_bestAdds t_regret t_z t_s' t_comes' t_begins' t_move') → lv_has ls 7 [(0, .ref a_t), (1, .int x1), (2, .int x2), (3, .int x3), (4, .int x4), (5, .int x5), (6, .int x6')] → W p l e rm_X8_findsBest s m args below meth c H locs 0 0 (QI G below args s A r (w_X8_findsBest G a_t a_t_s a_t_image a_t_mind a_t_aside a_t_text a_t_read a_t_comes a_t_begins a_t_latest a_t_move a_t_sort a_t_items a_t_cell a_t_carried t_isKept t_work t_kind t_letters t_at t_fault z_t_back z_t_waits t_miles z_t_loads t_bestRound t_bestPlace t_bestAdds t_regret t_z z_t_s z_t_comes z_t_begins z_t_move)) (F0 m 157 ls [])) {H : Heap} {locs : List Loc} {ls : Array Slot} (hf : b_X8_findsBest_176 k83 k127 k157 x1 x2 x3 x4 x5 x6 t_s t_comes t_begins t_back t_waits t_loads t_move = some (r, z_t_s, z_t_comes, z_t_begins, z_t_back, z_t_waits, z_t_loads, z_t_move)) (S : St G A s.heap H locs (w_X8_findsBest G a_t a_t_s a_t_image a_t_mind a_t_aside a_t_text a_t_read a_t_comes a_t_begins a_t_latest a_t_move a_t_sort a_t_items a_t_cell a_t_carried t_isKept t_work t_kind t_letters t_at t_fault t_back t_waits t_miles t_loads t_bestRound t_bestPlace t_bestAdds t_regret t_z t_s t_comes t_begins t_move)) (hl : lv_has ls 7 [(0, .ref a_t), (1, .int x1), (2, .int x2), (3, .int x3), (4, .int x4), (5, .int x5), (6, .int x6)]) : W p l e rm_X8_findsBest s m args below meth c H locs 0 0 (QI G below args s A r (w_X8_findsBest G a_t a_t_s a_t_image a_t_mind a_t_aside a_t_text a_t_read a_t_comes a_t_begins a_t_latest a_t_move a_t_sort a_t_items a_t_cell a_t_carried t_isKept t_work t_kind t_letters t_at t_fault z_t_back z_t_waits t_miles z_t_loads t_bestRound t_bestPlace t_bestAdds t_regret t_z z_t_s z_t_comes z_t_begins z_t_move)) (F0 m 176 ls []) := by
  unfold b_X8_findsBest_176 at hf
  have hx := C.1
  have hb := C.2.1
  have hown := C.2.2.2.2.1
  have hts := C.2.2.2.2.2.1
  have hN := C.2.2.2.2.2.2.2.2.2.2
  refine lv_aload_n (pc := 176) hx hb dX8_findsBest_176 rfl (lv_at hl 0 rfl) ?_
  refine lv_iconst (pc := 177) hx hb dX8_findsBest_177 ic_2 ?_
  refine lv_aload_n (pc := 178) hx hb dX8_findsBest_178 rfl (lv_at hl 0 rfl) ?_
  refine lv_iload_n (pc := 179) hx hb dX8_findsBest_179 rfl (lv_at hl 1 rfl) ?_
  refine lv_iload (pc := 180) hx hb dX8_findsBest_180 (lv_at hl 4 rfl) ?_
  refine lv_iload (pc := 182) hx hb dX8_findsBest_182 (lv_at hl 6 rfl) ?_
  obtain ⟨⟨r1, o1_t_s, o1_t_comes, o1_t_begins, o1_t_back, o1_t_waits, o1_t_loads⟩, hq1, hf⟩ := bd_e hf
  refine x_vI (pc := 184) (As := [.int x1, .int x4, .int x6]) (rest := [.int (2 : Int32), .ref a_t]) (isC := [0, 1, 2, 3]) (ws' := (w_X8_findsBest G a_t a_t_s a_t_image a_t_mind a_t_aside a_t_text a_t_read a_t_comes a_t_begins a_t_latest a_t_move a_t_sort a_t_items a_t_cell a_t_carried t_isKept t_work t_kind t_letters t_at t_fault o1_t_back o1_t_waits t_miles o1_t_loads t_bestRound t_bestPlace t_bestAdds t_regret t_z o1_t_s o1_t_comes o1_t_begins t_move)) C S (c_X8_shiftGains l G a_t a_t_s a_t_image a_t_mind a_t_aside a_t_text a_t_read a_t_comes a_t_begins a_t_latest a_t_move a_t_sort a_t_items a_t_cell a_t_carried t_isKept t_work t_kind t_letters t_at t_fault t_back t_waits t_miles t_loads t_bestRound t_bestPlace t_bestAdds t_regret t_z t_s t_comes t_begins x1 x4 x6 r1 o1_t_s o1_t_comes o1_t_begins o1_t_back o1_t_waits o1_t_loads hq1) (u_X8_findsBest_X8_shiftGains_227 hts) (ci := 8) rfl 0 rfl rfl (by decide +kernel) [some 0, some 1, some 2, some 3, none] (by decide +kernel) rfl rfl rfl hl.1 rfl (Nat.le_of_ble_eq_true rfl) dX8_findsBest_184 (fun H locs S => ?_)
  refine lv_iload_n (pc := 187) hx hb dX8_findsBest_187 rfl (lv_at hl 1 rfl) ?_
  refine lv_iload (pc := 188) hx hb dX8_findsBest_188 (lv_at hl 4 rfl) ?_
  refine lv_iload (pc := 190) hx hb dX8_findsBest_190 (lv_at hl 6 rfl) ?_
  obtain ⟨o2_t_move, hq2, hf⟩ := bd_e hf
  refine x_vV (pc := 192) (As := [.int (2 : Int32), .int r1, .int x1, .int x4, .int x6]) (rest := []) (isC := [0, 4]) (ws' := (w_X8_findsBest G a_t a_t_s a_t_image a_t_mind a_t_aside a_t_text a_t_read a_t_comes a_t_begins a_t_latest a_t_move a_t_sort a_t_items a_t_cell a_t_carried t_isKept t_work t_kind t_letters t_at t_fault o1_t_back o1_t_waits t_miles o1_t_loads t_bestRound t_bestPlace t_bestAdds t_regret t_z o1_t_s o1_t_comes o1_t_begins o2_t_move)) C S (c_X8_finds l G a_t a_t_s a_t_image a_t_mind a_t_aside a_t_text a_t_read a_t_comes a_t_begins a_t_latest a_t_move a_t_sort a_t_items a_t_cell a_t_carried t_isKept t_work t_kind t_letters t_at t_fault o1_t_back o1_t_waits t_miles o1_t_loads t_bestRound t_bestPlace t_bestAdds t_regret t_z t_move (2 : Int32) r1 x1 x4 x6 o2_t_move hq2) (u_X8_findsBest_X8_finds_223 hts) (ci := 8) rfl 0 rfl rfl (by decide +kernel) [some 0, none, none, none, some 1] (by decide +kernel) rfl rfl rfl hl.1 rfl (Nat.le_of_ble_eq_true rfl) dX8_findsBest_192 (fun H locs S => ?_)
  refine lv_iinc (pc := 195) (v := (x6 + (1 : Int32))) (lv' := [(6, .int (x6 + (1 : Int32))), (0, .ref a_t), (1, .int x1), (2, .int x2), (3, .int x3), (4, .int x4), (5, .int x5)]) hx hb dX8_findsBest_195 hl (k := 6) rfl (congrArg (fun z => x6 + z) ic_1) (by decide) rfl (fun ls hl => ?_)
  refine lv_goto (tgt := 157) (pc := 198) hx hb dX8_findsBest_198 (by decide) ?_
  exact hk157 ((x6 + (1 : Int32))) (o1_t_s) (o1_t_comes) (o1_t_begins) (o1_t_back) (o1_t_waits) (o1_t_loads) (o2_t_move)  hf S (lv_sub hl [1, 2, 3, 4, 5, 6, 0] rfl)
set_option maxRecDepth 100000 in
set_option maxHeartbeats 4000000 in
theorem k_X8_findsBest_157 (C : Cx p s m args meth c cX8_findsBest (some .boolean) 7 RX8 G A) (t_isKept : Int32) (t_work : Int32) (t_kind : Int32) (t_letters : Int32) (t_at : Int32) (t_fault : Int32) (t_back : Int32) (t_waits : Int32) (t_miles : Int32) (t_loads : Int32) (t_bestRound : Int32) (t_bestPlace : Int32) (t_bestAdds : Int32) (t_regret : Int32) (t_z : Int32) (t_s : Nat → Int32) (t_comes : Nat → Int32) (t_begins : Nat → Int32) (t_move : Nat → Int32) (x1 : Int32) (x2 : Int32) (x3 : Int32) (x4 : Int32) (x5 : Int32) (x6 : Int32) (k83 : Int32 × (Nat → Int32) × (Nat → Int32) × (Nat → Int32) × Int32 × Int32 × Int32 × (Nat → Int32) → Option (Int32 × (Nat → Int32) × (Nat → Int32) × (Nat → Int32) × Int32 × Int32 × Int32 × (Nat → Int32))) (hk83 : ∀ {H : Heap} {locs : List Loc} {ls : Array Slot} (x1' : Int32) (t_s' : Nat → Int32) (t_comes' : Nat → Int32) (t_begins' : Nat → Int32) (t_back' : Int32) (t_waits' : Int32) (t_loads' : Int32) (t_move' : Nat → Int32), k83 (x1', t_s', t_comes', t_begins', t_back', t_waits', t_loads', t_move') = some (r, z_t_s, z_t_comes, z_t_begins, z_t_back, z_t_waits, z_t_loads, z_t_move) → St G A s.heap H locs (w_X8_findsBest G a_t a_t_s a_t_image a_t_mind a_t_aside a_t_text a_t_read a_t_comes a_t_begins a_t_latest a_t_move a_t_sort a_t_items a_t_cell a_t_carried t_isKept t_work t_kind t_letters t_at t_fault t_back' t_waits' t_miles t_loads' t_bestRound t_bestPlace t_bestAdds t_regret t_z t_s' t_comes' t_begins' t_move') → lv_has ls 7 [(0, .ref a_t), (1, .int x1')] → W p l e rm_X8_findsBest s m args below meth c H locs 0 0 (QI G below args s A r (w_X8_findsBest G a_t a_t_s a_t_image a_t_mind a_t_aside a_t_text a_t_read a_t_comes a_t_begins a_t_latest a_t_move a_t_sort a_t_items a_t_cell a_t_carried t_isKept t_work t_kind t_letters t_at t_fault z_t_back z_t_waits t_miles z_t_loads t_bestRound t_bestPlace t_bestAdds t_regret t_z z_t_s z_t_comes z_t_begins z_t_move)) (F0 m 83 ls [])) (k127 : Int32 × (Nat → Int32) × (Nat → Int32) × (Nat → Int32) × Int32 × Int32 × Int32 × (Nat → Int32) → Option (Int32 × (Nat → Int32) × (Nat → Int32) × (Nat → Int32) × Int32 × Int32 × Int32 × (Nat → Int32))) (hk127 : ∀ {H : Heap} {locs : List Loc} {ls : Array Slot} (x4' : Int32) (t_s' : Nat → Int32) (t_comes' : Nat → Int32) (t_begins' : Nat → Int32) (t_back' : Int32) (t_waits' : Int32) (t_loads' : Int32) (t_move' : Nat → Int32), k127 (x4', t_s', t_comes', t_begins', t_back', t_waits', t_loads', t_move') = some (r, z_t_s, z_t_comes, z_t_begins, z_t_back, z_t_waits, z_t_loads, z_t_move) → St G A s.heap H locs (w_X8_findsBest G a_t a_t_s a_t_image a_t_mind a_t_aside a_t_text a_t_read a_t_comes a_t_begins a_t_latest a_t_move a_t_sort a_t_items a_t_cell a_t_carried t_isKept t_work t_kind t_letters t_at t_fault t_back' t_waits' t_miles t_loads' t_bestRound t_bestPlace t_bestAdds t_regret t_z t_s' t_comes' t_begins' t_move') → lv_has ls 7 [(0, .ref a_t), (1, .int x1), (2, .int x2), (3, .int x3), (4, .int x4')] → W p l e rm_X8_findsBest s m args below meth c H locs 0 0 (QI G below args s A r (w_X8_findsBest G a_t a_t_s a_t_image a_t_mind a_t_aside a_t_text a_t_read a_t_comes a_t_begins a_t_latest a_t_move a_t_sort a_t_items a_t_cell a_t_carried t_isKept t_work t_kind t_letters t_at t_fault z_t_back z_t_waits t_miles z_t_loads t_bestRound t_bestPlace t_bestAdds t_regret t_z z_t_s z_t_comes z_t_begins z_t_move)) (F0 m 127 ls [])) (k157 : Int32 × (Nat → Int32) × (Nat → Int32) × (Nat → Int32) × Int32 × Int32 × Int32 × (Nat → Int32) → Option (Int32 × (Nat → Int32) × (Nat → Int32) × (Nat → Int32) × Int32 × Int32 × Int32 × (Nat → Int32))) (hk157 : ∀ {H : Heap} {locs : List Loc} {ls : Array Slot} (x6' : Int32) (t_s' : Nat → Int32) (t_comes' : Nat → Int32) (t_begins' : Nat → Int32) (t_back' : Int32) (t_waits' : Int32) (t_loads' : Int32) (t_move' : Nat → Int32), k157 (x6', t_s', t_comes', t_begins', t_back', t_waits', t_loads', t_move') = some (r, z_t_s, z_t_comes, z_t_begins, z_t_back, z_t_waits, z_t_loads, z_t_move) → St G A s.heap H locs (w_X8_findsBest G a_t a_t_s a_t_image a_t_mind a_t_aside a_t_text a_t_read a_t_comes a_t_begins a_t_latest a_t_move a_t_sort a_t_items a_t_cell a_t_carried t_isKept t_work t_kind t_letters t_at t_fault t_back' t_waits' t_miles t_loads' t_bestRound t_bestPlace t_bestAdds t_regret t_z t_s' t_comes' t_begins' t_move') → lv_has ls 7 [(0, .ref a_t), (1, .int x1), (2, .int x2), (3, .int x3), (4, .int x4), (5, .int x5), (6, .int x6')] → W p l e rm_X8_findsBest s m args below meth c H locs 0 0 (QI G below args s A r (w_X8_findsBest G a_t a_t_s a_t_image a_t_mind a_t_aside a_t_text a_t_read a_t_comes a_t_begins a_t_latest a_t_move a_t_sort a_t_items a_t_cell a_t_carried t_isKept t_work t_kind t_letters t_at t_fault z_t_back z_t_waits t_miles z_t_loads t_bestRound t_bestPlace t_bestAdds t_regret t_z z_t_s z_t_comes z_t_begins z_t_move)) (F0 m 157 ls [])) {H : Heap} {locs : List Loc} {ls : Array Slot} (hf : b_X8_findsBest_157 k83 k127 x1 x2 x3 x4 x5 k157 x6 t_s t_comes t_begins t_back t_waits t_loads t_move = some (r, z_t_s, z_t_comes, z_t_begins, z_t_back, z_t_waits, z_t_loads, z_t_move)) (S : St G A s.heap H locs (w_X8_findsBest G a_t a_t_s a_t_image a_t_mind a_t_aside a_t_text a_t_read a_t_comes a_t_begins a_t_latest a_t_move a_t_sort a_t_items a_t_cell a_t_carried t_isKept t_work t_kind t_letters t_at t_fault t_back t_waits t_miles t_loads t_bestRound t_bestPlace t_bestAdds t_regret t_z t_s t_comes t_begins t_move)) (hl : lv_has ls 7 [(0, .ref a_t), (1, .int x1), (2, .int x2), (3, .int x3), (4, .int x4), (5, .int x5), (6, .int x6)]) : W p l e rm_X8_findsBest s m args below meth c H locs 0 0 (QI G below args s A r (w_X8_findsBest G a_t a_t_s a_t_image a_t_mind a_t_aside a_t_text a_t_read a_t_comes a_t_begins a_t_latest a_t_move a_t_sort a_t_items a_t_cell a_t_carried t_isKept t_work t_kind t_letters t_at t_fault z_t_back z_t_waits t_miles z_t_loads t_bestRound t_bestPlace t_bestAdds t_regret t_z z_t_s z_t_comes z_t_begins z_t_move)) (F0 m 157 ls []) := by
  unfold b_X8_findsBest_157 at hf
  have hx := C.1
  have hb := C.2.1
  have hown := C.2.2.2.2.1
  have hts := C.2.2.2.2.2.1
  have hN := C.2.2.2.2.2.2.2.2.2.2
  refine lv_iload (pc := 157) hx hb dX8_findsBest_157 (lv_at hl 6 rfl) ?_
  refine lv_iload (pc := 159) hx hb dX8_findsBest_159 (lv_at hl 5 rfl) ?_
  refine lv_icmp_gt (tgt := 201) (pc := 161) hx hb dX8_findsBest_161 (by decide) (fun c1 => ?_) (fun c1 => ?_)
  · have hf := ifp c1 hf
    refine lv_iinc (pc := 201) (v := (x4 + (1 : Int32))) (lv' := [(4, .int (x4 + (1 : Int32))), (0, .ref a_t), (1, .int x1), (2, .int x2), (3, .int x3), (5, .int x5), (6, .int x6)]) hx hb dX8_findsBest_201 hl (k := 4) rfl (congrArg (fun z => x4 + z) ic_1) (by decide) rfl (fun ls hl => ?_)
    refine lv_goto (tgt := 127) (pc := 204) hx hb dX8_findsBest_204 (by decide) ?_
    exact hk127 ((x4 + (1 : Int32))) (t_s) (t_comes) (t_begins) (t_back) (t_waits) (t_loads) (t_move)  hf S (lv_sub hl [1, 2, 3, 4, 0] rfl)
  · have hf := ifn c1 hf
    refine lv_iload (pc := 164) hx hb dX8_findsBest_164 (lv_at hl 4 rfl) ?_
    refine lv_iload_n (pc := 166) hx hb dX8_findsBest_166 rfl (lv_at hl 2 rfl) ?_
    refine lv_icmp_ne (tgt := 176) (pc := 167) hx hb dX8_findsBest_167 (by decide) (fun c2 => ?_) (fun c2 => ?_)
    · have hf := ifn c2 hf
      exact k_X8_findsBest_176 C (t_isKept) (t_work) (t_kind) (t_letters) (t_at) (t_fault) (t_back) (t_waits) (t_miles) (t_loads) (t_bestRound) (t_bestPlace) (t_bestAdds) (t_regret) (t_z) (t_s) (t_comes) (t_begins) (t_move) (x1) (x2) (x3) (x4) (x5) (x6) k83 hk83 k127 hk127 k157 hk157 hf S (lv_sub hl [0, 1, 2, 3, 4, 5, 6] rfl)
    · have hf := ifp c2 hf
      refine lv_iload (pc := 170) hx hb dX8_findsBest_170 (lv_at hl 6 rfl) ?_
      refine lv_iload_n (pc := 172) hx hb dX8_findsBest_172 rfl (lv_at hl 3 rfl) ?_
      refine lv_icmp_eq (tgt := 195) (pc := 173) hx hb dX8_findsBest_173 (by decide) (fun c3 => ?_) (fun c3 => ?_)
      · have hf := ifp c3 hf
        refine lv_iinc (pc := 195) (v := (x6 + (1 : Int32))) (lv' := [(6, .int (x6 + (1 : Int32))), (0, .ref a_t), (1, .int x1), (2, .int x2), (3, .int x3), (4, .int x4), (5, .int x5)]) hx hb dX8_findsBest_195 hl (k := 6) rfl (congrArg (fun z => x6 + z) ic_1) (by decide) rfl (fun ls hl => ?_)
        refine lv_goto (tgt := 157) (pc := 198) hx hb dX8_findsBest_198 (by decide) ?_
        exact hk157 ((x6 + (1 : Int32))) (t_s) (t_comes) (t_begins) (t_back) (t_waits) (t_loads) (t_move)  hf S (lv_sub hl [1, 2, 3, 4, 5, 6, 0] rfl)
      · have hf := ifn c3 hf
        exact k_X8_findsBest_176 C (t_isKept) (t_work) (t_kind) (t_letters) (t_at) (t_fault) (t_back) (t_waits) (t_miles) (t_loads) (t_bestRound) (t_bestPlace) (t_bestAdds) (t_regret) (t_z) (t_s) (t_comes) (t_begins) (t_move) (x1) (x2) (x3) (x4) (x5) (x6) k83 hk83 k127 hk127 k157 hk157 hf S (lv_sub hl [0, 1, 2, 3, 4, 5, 6] rfl)
set_option maxRecDepth 100000 in
set_option maxHeartbeats 4000000 in
theorem h_X8_findsBest_157 (C : Cx p s m args meth c cX8_findsBest (some .boolean) 7 RX8 G A) (t_isKept : Int32) (t_work : Int32) (t_kind : Int32) (t_letters : Int32) (t_at : Int32) (t_fault : Int32) (t_miles : Int32) (t_bestRound : Int32) (t_bestPlace : Int32) (t_bestAdds : Int32) (t_regret : Int32) (t_z : Int32) (x1 : Int32) (x2 : Int32) (x3 : Int32) (x4 : Int32) (x5 : Int32) (k83 : Int32 × (Nat → Int32) × (Nat → Int32) × (Nat → Int32) × Int32 × Int32 × Int32 × (Nat → Int32) → Option (Int32 × (Nat → Int32) × (Nat → Int32) × (Nat → Int32) × Int32 × Int32 × Int32 × (Nat → Int32))) (hk83 : ∀ {H : Heap} {locs : List Loc} {ls : Array Slot} (x1' : Int32) (t_s' : Nat → Int32) (t_comes' : Nat → Int32) (t_begins' : Nat → Int32) (t_back' : Int32) (t_waits' : Int32) (t_loads' : Int32) (t_move' : Nat → Int32), k83 (x1', t_s', t_comes', t_begins', t_back', t_waits', t_loads', t_move') = some (r, z_t_s, z_t_comes, z_t_begins, z_t_back, z_t_waits, z_t_loads, z_t_move) → St G A s.heap H locs (w_X8_findsBest G a_t a_t_s a_t_image a_t_mind a_t_aside a_t_text a_t_read a_t_comes a_t_begins a_t_latest a_t_move a_t_sort a_t_items a_t_cell a_t_carried t_isKept t_work t_kind t_letters t_at t_fault t_back' t_waits' t_miles t_loads' t_bestRound t_bestPlace t_bestAdds t_regret t_z t_s' t_comes' t_begins' t_move') → lv_has ls 7 [(0, .ref a_t), (1, .int x1')] → W p l e rm_X8_findsBest s m args below meth c H locs 0 0 (QI G below args s A r (w_X8_findsBest G a_t a_t_s a_t_image a_t_mind a_t_aside a_t_text a_t_read a_t_comes a_t_begins a_t_latest a_t_move a_t_sort a_t_items a_t_cell a_t_carried t_isKept t_work t_kind t_letters t_at t_fault z_t_back z_t_waits t_miles z_t_loads t_bestRound t_bestPlace t_bestAdds t_regret t_z z_t_s z_t_comes z_t_begins z_t_move)) (F0 m 83 ls [])) (k127 : Int32 × (Nat → Int32) × (Nat → Int32) × (Nat → Int32) × Int32 × Int32 × Int32 × (Nat → Int32) → Option (Int32 × (Nat → Int32) × (Nat → Int32) × (Nat → Int32) × Int32 × Int32 × Int32 × (Nat → Int32))) (hk127 : ∀ {H : Heap} {locs : List Loc} {ls : Array Slot} (x4' : Int32) (t_s' : Nat → Int32) (t_comes' : Nat → Int32) (t_begins' : Nat → Int32) (t_back' : Int32) (t_waits' : Int32) (t_loads' : Int32) (t_move' : Nat → Int32), k127 (x4', t_s', t_comes', t_begins', t_back', t_waits', t_loads', t_move') = some (r, z_t_s, z_t_comes, z_t_begins, z_t_back, z_t_waits, z_t_loads, z_t_move) → St G A s.heap H locs (w_X8_findsBest G a_t a_t_s a_t_image a_t_mind a_t_aside a_t_text a_t_read a_t_comes a_t_begins a_t_latest a_t_move a_t_sort a_t_items a_t_cell a_t_carried t_isKept t_work t_kind t_letters t_at t_fault t_back' t_waits' t_miles t_loads' t_bestRound t_bestPlace t_bestAdds t_regret t_z t_s' t_comes' t_begins' t_move') → lv_has ls 7 [(0, .ref a_t), (1, .int x1), (2, .int x2), (3, .int x3), (4, .int x4')] → W p l e rm_X8_findsBest s m args below meth c H locs 0 0 (QI G below args s A r (w_X8_findsBest G a_t a_t_s a_t_image a_t_mind a_t_aside a_t_text a_t_read a_t_comes a_t_begins a_t_latest a_t_move a_t_sort a_t_items a_t_cell a_t_carried t_isKept t_work t_kind t_letters t_at t_fault z_t_back z_t_waits t_miles z_t_loads t_bestRound t_bestPlace t_bestAdds t_regret t_z z_t_s z_t_comes z_t_begins z_t_move)) (F0 m 127 ls [])) : ∀ (n : Nat) (x6 : Int32) (t_s : Nat → Int32) (t_comes : Nat → Int32) (t_begins : Nat → Int32) (t_back : Int32) (t_waits : Int32) (t_loads : Int32) (t_move : Nat → Int32) {H : Heap} {locs : List Loc} {ls : Array Slot} (hf : lp (fun k x => b_X8_findsBest_157 k83 k127 x1 x2 x3 x4 x5 k x.1 x.2.1 x.2.2.1 x.2.2.2.1 x.2.2.2.2.1 x.2.2.2.2.2.1 x.2.2.2.2.2.2.1 x.2.2.2.2.2.2.2) n (x6, t_s, t_comes, t_begins, t_back, t_waits, t_loads, t_move) = some (r, z_t_s, z_t_comes, z_t_begins, z_t_back, z_t_waits, z_t_loads, z_t_move)) (S : St G A s.heap H locs (w_X8_findsBest G a_t a_t_s a_t_image a_t_mind a_t_aside a_t_text a_t_read a_t_comes a_t_begins a_t_latest a_t_move a_t_sort a_t_items a_t_cell a_t_carried t_isKept t_work t_kind t_letters t_at t_fault t_back t_waits t_miles t_loads t_bestRound t_bestPlace t_bestAdds t_regret t_z t_s t_comes t_begins t_move)) (hl : lv_has ls 7 [(0, .ref a_t), (1, .int x1), (2, .int x2), (3, .int x3), (4, .int x4), (5, .int x5), (6, .int x6)]), W p l e rm_X8_findsBest s m args below meth c H locs 0 0 (QI G below args s A r (w_X8_findsBest G a_t a_t_s a_t_image a_t_mind a_t_aside a_t_text a_t_read a_t_comes a_t_begins a_t_latest a_t_move a_t_sort a_t_items a_t_cell a_t_carried t_isKept t_work t_kind t_letters t_at t_fault z_t_back z_t_waits t_miles z_t_loads t_bestRound t_bestPlace t_bestAdds t_regret t_z z_t_s z_t_comes z_t_begins z_t_move)) (F0 m 157 ls []) := by
  intro n
  induction n with
  | zero =>
    intro x6 t_s t_comes t_begins t_back t_waits t_loads t_move  H locs ls hf
    cases hf
  | succ n ih =>
    intro x6 t_s t_comes t_begins t_back t_waits t_loads t_move  H locs ls hf S hl
    have hf : b_X8_findsBest_157 k83 k127 x1 x2 x3 x4 x5 (lp (fun k x => b_X8_findsBest_157 k83 k127 x1 x2 x3 x4 x5 k x.1 x.2.1 x.2.2.1 x.2.2.2.1 x.2.2.2.2.1 x.2.2.2.2.2.1 x.2.2.2.2.2.2.1 x.2.2.2.2.2.2.2) n) x6 t_s t_comes t_begins t_back t_waits t_loads t_move = some (r, z_t_s, z_t_comes, z_t_begins, z_t_back, z_t_waits, z_t_loads, z_t_move) := hf
    exact k_X8_findsBest_157 C t_isKept t_work t_kind t_letters t_at t_fault t_back t_waits t_miles t_loads t_bestRound t_bestPlace t_bestAdds t_regret t_z t_s t_comes t_begins t_move x1 x2 x3 x4 x5 x6  k83 hk83 k127 hk127 (lp (fun k x => b_X8_findsBest_157 k83 k127 x1 x2 x3 x4 x5 k x.1 x.2.1 x.2.2.1 x.2.2.2.1 x.2.2.2.2.1 x.2.2.2.2.2.1 x.2.2.2.2.2.2.1 x.2.2.2.2.2.2.2) n) (fun x6' t_s' t_comes' t_begins' t_back' t_waits' t_loads' t_move'  h S hl => ih x6' t_s' t_comes' t_begins' t_back' t_waits' t_loads' t_move'  h S hl) hf S hl
set_option maxRecDepth 100000 in
set_option maxHeartbeats 4000000 in
theorem k_X8_findsBest_127 (C : Cx p s m args meth c cX8_findsBest (some .boolean) 7 RX8 G A) (t_isKept : Int32) (t_work : Int32) (t_kind : Int32) (t_letters : Int32) (t_at : Int32) (t_fault : Int32) (t_back : Int32) (t_waits : Int32) (t_miles : Int32) (t_loads : Int32) (t_bestRound : Int32) (t_bestPlace : Int32) (t_bestAdds : Int32) (t_regret : Int32) (t_z : Int32) (t_s : Nat → Int32) (t_comes : Nat → Int32) (t_begins : Nat → Int32) (t_move : Nat → Int32) (x1 : Int32) (x2 : Int32) (x3 : Int32) (x4 : Int32) (k83 : Int32 × (Nat → Int32) × (Nat → Int32) × (Nat → Int32) × Int32 × Int32 × Int32 × (Nat → Int32) → Option (Int32 × (Nat → Int32) × (Nat → Int32) × (Nat → Int32) × Int32 × Int32 × Int32 × (Nat → Int32))) (hk83 : ∀ {H : Heap} {locs : List Loc} {ls : Array Slot} (x1' : Int32) (t_s' : Nat → Int32) (t_comes' : Nat → Int32) (t_begins' : Nat → Int32) (t_back' : Int32) (t_waits' : Int32) (t_loads' : Int32) (t_move' : Nat → Int32), k83 (x1', t_s', t_comes', t_begins', t_back', t_waits', t_loads', t_move') = some (r, z_t_s, z_t_comes, z_t_begins, z_t_back, z_t_waits, z_t_loads, z_t_move) → St G A s.heap H locs (w_X8_findsBest G a_t a_t_s a_t_image a_t_mind a_t_aside a_t_text a_t_read a_t_comes a_t_begins a_t_latest a_t_move a_t_sort a_t_items a_t_cell a_t_carried t_isKept t_work t_kind t_letters t_at t_fault t_back' t_waits' t_miles t_loads' t_bestRound t_bestPlace t_bestAdds t_regret t_z t_s' t_comes' t_begins' t_move') → lv_has ls 7 [(0, .ref a_t), (1, .int x1')] → W p l e rm_X8_findsBest s m args below meth c H locs 0 0 (QI G below args s A r (w_X8_findsBest G a_t a_t_s a_t_image a_t_mind a_t_aside a_t_text a_t_read a_t_comes a_t_begins a_t_latest a_t_move a_t_sort a_t_items a_t_cell a_t_carried t_isKept t_work t_kind t_letters t_at t_fault z_t_back z_t_waits t_miles z_t_loads t_bestRound t_bestPlace t_bestAdds t_regret t_z z_t_s z_t_comes z_t_begins z_t_move)) (F0 m 83 ls [])) (k127 : Int32 × (Nat → Int32) × (Nat → Int32) × (Nat → Int32) × Int32 × Int32 × Int32 × (Nat → Int32) → Option (Int32 × (Nat → Int32) × (Nat → Int32) × (Nat → Int32) × Int32 × Int32 × Int32 × (Nat → Int32))) (hk127 : ∀ {H : Heap} {locs : List Loc} {ls : Array Slot} (x4' : Int32) (t_s' : Nat → Int32) (t_comes' : Nat → Int32) (t_begins' : Nat → Int32) (t_back' : Int32) (t_waits' : Int32) (t_loads' : Int32) (t_move' : Nat → Int32), k127 (x4', t_s', t_comes', t_begins', t_back', t_waits', t_loads', t_move') = some (r, z_t_s, z_t_comes, z_t_begins, z_t_back, z_t_waits, z_t_loads, z_t_move) → St G A s.heap H locs (w_X8_findsBest G a_t a_t_s a_t_image a_t_mind a_t_aside a_t_text a_t_read a_t_comes a_t_begins a_t_latest a_t_move a_t_sort a_t_items a_t_cell a_t_carried t_isKept t_work t_kind t_letters t_at t_fault t_back' t_waits' t_miles t_loads' t_bestRound t_bestPlace t_bestAdds t_regret t_z t_s' t_comes' t_begins' t_move') → lv_has ls 7 [(0, .ref a_t), (1, .int x1), (2, .int x2), (3, .int x3), (4, .int x4')] → W p l e rm_X8_findsBest s m args below meth c H locs 0 0 (QI G below args s A r (w_X8_findsBest G a_t a_t_s a_t_image a_t_mind a_t_aside a_t_text a_t_read a_t_comes a_t_begins a_t_latest a_t_move a_t_sort a_t_items a_t_cell a_t_carried t_isKept t_work t_kind t_letters t_at t_fault z_t_back z_t_waits t_miles z_t_loads t_bestRound t_bestPlace t_bestAdds t_regret t_z z_t_s z_t_comes z_t_begins z_t_move)) (F0 m 127 ls [])) {H : Heap} {locs : List Loc} {ls : Array Slot} (hf : b_X8_findsBest_127 k83 x1 x2 x3 k127 x4 t_s t_comes t_begins t_back t_waits t_loads t_move = some (r, z_t_s, z_t_comes, z_t_begins, z_t_back, z_t_waits, z_t_loads, z_t_move)) (S : St G A s.heap H locs (w_X8_findsBest G a_t a_t_s a_t_image a_t_mind a_t_aside a_t_text a_t_read a_t_comes a_t_begins a_t_latest a_t_move a_t_sort a_t_items a_t_cell a_t_carried t_isKept t_work t_kind t_letters t_at t_fault t_back t_waits t_miles t_loads t_bestRound t_bestPlace t_bestAdds t_regret t_z t_s t_comes t_begins t_move)) (hl : lv_has ls 7 [(0, .ref a_t), (1, .int x1), (2, .int x2), (3, .int x3), (4, .int x4)]) : W p l e rm_X8_findsBest s m args below meth c H locs 0 0 (QI G below args s A r (w_X8_findsBest G a_t a_t_s a_t_image a_t_mind a_t_aside a_t_text a_t_read a_t_comes a_t_begins a_t_latest a_t_move a_t_sort a_t_items a_t_cell a_t_carried t_isKept t_work t_kind t_letters t_at t_fault z_t_back z_t_waits t_miles z_t_loads t_bestRound t_bestPlace t_bestAdds t_regret t_z z_t_s z_t_comes z_t_begins z_t_move)) (F0 m 127 ls []) := by
  unfold b_X8_findsBest_127 at hf
  have hx := C.1
  have hb := C.2.1
  have hown := C.2.2.2.2.1
  have hts := C.2.2.2.2.2.1
  have hN := C.2.2.2.2.2.2.2.2.2.2
  refine lv_iload (pc := 127) hx hb dX8_findsBest_127 (lv_at hl 4 rfl) ?_
  refine lv_iconst (pc := 129) hx hb dX8_findsBest_129 ic_4 ?_
  refine lv_icmp_ge (tgt := 207) (pc := 130) hx hb dX8_findsBest_130 (by decide) (fun c1 => ?_) (fun c1 => ?_)
  · have hf := ifp c1 hf
    refine lv_iinc (pc := 207) (v := (x1 + (1 : Int32))) (lv' := [(1, .int (x1 + (1 : Int32))), (0, .ref a_t), (2, .int x2), (3, .int x3), (4, .int x4)]) hx hb dX8_findsBest_207 hl (k := 1) rfl (congrArg (fun z => x1 + z) ic_1) (by decide) rfl (fun ls hl => ?_)
    refine lv_goto (tgt := 83) (pc := 210) hx hb dX8_findsBest_210 (by decide) ?_
    exact hk83 ((x1 + (1 : Int32))) (t_s) (t_comes) (t_begins) (t_back) (t_waits) (t_loads) (t_move)  hf S (lv_sub hl [1, 0] rfl)
  · have hf := ifn c1 hf
    refine lv_aload_n (pc := 133) hx hb dX8_findsBest_133 rfl (lv_at hl 0 rfl) ?_
    refine lv_iload (pc := 134) hx hb dX8_findsBest_134 (lv_at hl 4 rfl) ?_
    refine lv_iconst (pc := 136) hx hb dX8_findsBest_136 ic_3 ?_
    obtain ⟨r2, hq2, hf⟩ := bd_e hf
    refine x_vI (pc := 137) (As := [.int x4, .int (3 : Int32)]) (rest := []) (isC := [0, 1]) (ws' := (w_X8_findsBest G a_t a_t_s a_t_image a_t_mind a_t_aside a_t_text a_t_read a_t_comes a_t_begins a_t_latest a_t_move a_t_sort a_t_items a_t_cell a_t_carried t_isKept t_work t_kind t_letters t_at t_fault t_back t_waits t_miles t_loads t_bestRound t_bestPlace t_bestAdds t_regret t_z t_s t_comes t_begins t_move)) C S (c_X8_roundAt l G a_t a_t_s a_t_image a_t_mind a_t_aside a_t_text a_t_read a_t_comes a_t_begins a_t_latest a_t_move a_t_sort a_t_items a_t_cell a_t_carried t_isKept t_work t_kind t_letters t_at t_fault t_back t_waits t_miles t_loads t_bestRound t_bestPlace t_bestAdds t_regret t_z t_s x4 (3 : Int32) r2 hq2) (u_X8_findsBest_X8_roundAt_59 hts) (ci := 8) rfl 0 rfl rfl (by decide +kernel) [some 0, some 1, none, none, none] (by decide +kernel) rfl rfl rfl hl.1 rfl (Nat.le_of_ble_eq_true rfl) dX8_findsBest_137 (fun H locs S => ?_)
    refine lv_iload (pc := 140) hx hb dX8_findsBest_140 (lv_at hl 4 rfl) ?_
    refine lv_iload_n (pc := 142) hx hb dX8_findsBest_142 rfl (lv_at hl 2 rfl) ?_
    refine lv_icmp_ne (tgt := 150) (pc := 143) hx hb dX8_findsBest_143 (by decide) (fun c3 => ?_) (fun c3 => ?_)
    · have hf := ifn c3 hf
      refine lv_iconst (pc := 150) hx hb dX8_findsBest_150 ic_0 ?_
      refine lv_isub (pc := 151) hx hb dX8_findsBest_151 ?_
      refine lv_istore (pc := 152) (lv' := [(5, .int (r2 - (0 : Int32))), (0, .ref a_t), (1, .int x1), (2, .int x2), (3, .int x3), (4, .int x4)]) hx hb dX8_findsBest_152 hl (by decide) rfl (fun ls hl => ?_)
      refine lv_iconst (pc := 154) hx hb dX8_findsBest_154 ic_0 ?_
      refine lv_istore (pc := 155) (lv' := [(6, .int (0 : Int32)), (5, .int (r2 - (0 : Int32))), (0, .ref a_t), (1, .int x1), (2, .int x2), (3, .int x3), (4, .int x4)]) hx hb dX8_findsBest_155 hl (by decide) rfl (fun ls hl => ?_)
      exact h_X8_findsBest_157 C (t_isKept) (t_work) (t_kind) (t_letters) (t_at) (t_fault) (t_miles) (t_bestRound) (t_bestPlace) (t_bestAdds) (t_regret) (t_z) (x1) (x2) (x3) (x4) ((r2 - (0 : Int32))) k83 hk83 k127 hk127 fu ((0 : Int32)) (t_s) (t_comes) (t_begins) (t_back) (t_waits) (t_loads) (t_move) hf S (lv_sub hl [2, 3, 4, 5, 6, 1, 0] rfl)
    · have hf := ifp c3 hf
      refine lv_iconst (pc := 146) hx hb dX8_findsBest_146 ic_1 ?_
      refine lv_goto (tgt := 151) (pc := 147) hx hb dX8_findsBest_147 (by decide) ?_
      refine lv_isub (pc := 151) hx hb dX8_findsBest_151 ?_
      refine lv_istore (pc := 152) (lv' := [(5, .int (r2 - (1 : Int32))), (0, .ref a_t), (1, .int x1), (2, .int x2), (3, .int x3), (4, .int x4)]) hx hb dX8_findsBest_152 hl (by decide) rfl (fun ls hl => ?_)
      refine lv_iconst (pc := 154) hx hb dX8_findsBest_154 ic_0 ?_
      refine lv_istore (pc := 155) (lv' := [(6, .int (0 : Int32)), (5, .int (r2 - (1 : Int32))), (0, .ref a_t), (1, .int x1), (2, .int x2), (3, .int x3), (4, .int x4)]) hx hb dX8_findsBest_155 hl (by decide) rfl (fun ls hl => ?_)
      exact h_X8_findsBest_157 C (t_isKept) (t_work) (t_kind) (t_letters) (t_at) (t_fault) (t_miles) (t_bestRound) (t_bestPlace) (t_bestAdds) (t_regret) (t_z) (x1) (x2) (x3) (x4) ((r2 - (1 : Int32))) k83 hk83 k127 hk127 fu ((0 : Int32)) (t_s) (t_comes) (t_begins) (t_back) (t_waits) (t_loads) (t_move) hf S (lv_sub hl [2, 3, 4, 5, 6, 1, 0] rfl)
set_option maxRecDepth 100000 in
set_option maxHeartbeats 4000000 in
theorem h_X8_findsBest_127 (C : Cx p s m args meth c cX8_findsBest (some .boolean) 7 RX8 G A) (t_isKept : Int32) (t_work : Int32) (t_kind : Int32) (t_letters : Int32) (t_at : Int32) (t_fault : Int32) (t_miles : Int32) (t_bestRound : Int32) (t_bestPlace : Int32) (t_bestAdds : Int32) (t_regret : Int32) (t_z : Int32) (x1 : Int32) (x2 : Int32) (x3 : Int32) (k83 : Int32 × (Nat → Int32) × (Nat → Int32) × (Nat → Int32) × Int32 × Int32 × Int32 × (Nat → Int32) → Option (Int32 × (Nat → Int32) × (Nat → Int32) × (Nat → Int32) × Int32 × Int32 × Int32 × (Nat → Int32))) (hk83 : ∀ {H : Heap} {locs : List Loc} {ls : Array Slot} (x1' : Int32) (t_s' : Nat → Int32) (t_comes' : Nat → Int32) (t_begins' : Nat → Int32) (t_back' : Int32) (t_waits' : Int32) (t_loads' : Int32) (t_move' : Nat → Int32), k83 (x1', t_s', t_comes', t_begins', t_back', t_waits', t_loads', t_move') = some (r, z_t_s, z_t_comes, z_t_begins, z_t_back, z_t_waits, z_t_loads, z_t_move) → St G A s.heap H locs (w_X8_findsBest G a_t a_t_s a_t_image a_t_mind a_t_aside a_t_text a_t_read a_t_comes a_t_begins a_t_latest a_t_move a_t_sort a_t_items a_t_cell a_t_carried t_isKept t_work t_kind t_letters t_at t_fault t_back' t_waits' t_miles t_loads' t_bestRound t_bestPlace t_bestAdds t_regret t_z t_s' t_comes' t_begins' t_move') → lv_has ls 7 [(0, .ref a_t), (1, .int x1')] → W p l e rm_X8_findsBest s m args below meth c H locs 0 0 (QI G below args s A r (w_X8_findsBest G a_t a_t_s a_t_image a_t_mind a_t_aside a_t_text a_t_read a_t_comes a_t_begins a_t_latest a_t_move a_t_sort a_t_items a_t_cell a_t_carried t_isKept t_work t_kind t_letters t_at t_fault z_t_back z_t_waits t_miles z_t_loads t_bestRound t_bestPlace t_bestAdds t_regret t_z z_t_s z_t_comes z_t_begins z_t_move)) (F0 m 83 ls [])) : ∀ (n : Nat) (x4 : Int32) (t_s : Nat → Int32) (t_comes : Nat → Int32) (t_begins : Nat → Int32) (t_back : Int32) (t_waits : Int32) (t_loads : Int32) (t_move : Nat → Int32) {H : Heap} {locs : List Loc} {ls : Array Slot} (hf : lp (fun k x => b_X8_findsBest_127 k83 x1 x2 x3 k x.1 x.2.1 x.2.2.1 x.2.2.2.1 x.2.2.2.2.1 x.2.2.2.2.2.1 x.2.2.2.2.2.2.1 x.2.2.2.2.2.2.2) n (x4, t_s, t_comes, t_begins, t_back, t_waits, t_loads, t_move) = some (r, z_t_s, z_t_comes, z_t_begins, z_t_back, z_t_waits, z_t_loads, z_t_move)) (S : St G A s.heap H locs (w_X8_findsBest G a_t a_t_s a_t_image a_t_mind a_t_aside a_t_text a_t_read a_t_comes a_t_begins a_t_latest a_t_move a_t_sort a_t_items a_t_cell a_t_carried t_isKept t_work t_kind t_letters t_at t_fault t_back t_waits t_miles t_loads t_bestRound t_bestPlace t_bestAdds t_regret t_z t_s t_comes t_begins t_move)) (hl : lv_has ls 7 [(0, .ref a_t), (1, .int x1), (2, .int x2), (3, .int x3), (4, .int x4)]), W p l e rm_X8_findsBest s m args below meth c H locs 0 0 (QI G below args s A r (w_X8_findsBest G a_t a_t_s a_t_image a_t_mind a_t_aside a_t_text a_t_read a_t_comes a_t_begins a_t_latest a_t_move a_t_sort a_t_items a_t_cell a_t_carried t_isKept t_work t_kind t_letters t_at t_fault z_t_back z_t_waits t_miles z_t_loads t_bestRound t_bestPlace t_bestAdds t_regret t_z z_t_s z_t_comes z_t_begins z_t_move)) (F0 m 127 ls []) := by
  intro n
  induction n with
  | zero =>
    intro x4 t_s t_comes t_begins t_back t_waits t_loads t_move  H locs ls hf
    cases hf
  | succ n ih =>
    intro x4 t_s t_comes t_begins t_back t_waits t_loads t_move  H locs ls hf S hl
    have hf : b_X8_findsBest_127 k83 x1 x2 x3 (lp (fun k x => b_X8_findsBest_127 k83 x1 x2 x3 k x.1 x.2.1 x.2.2.1 x.2.2.2.1 x.2.2.2.2.1 x.2.2.2.2.2.1 x.2.2.2.2.2.2.1 x.2.2.2.2.2.2.2) n) x4 t_s t_comes t_begins t_back t_waits t_loads t_move = some (r, z_t_s, z_t_comes, z_t_begins, z_t_back, z_t_waits, z_t_loads, z_t_move) := hf
    exact k_X8_findsBest_127 C t_isKept t_work t_kind t_letters t_at t_fault t_back t_waits t_miles t_loads t_bestRound t_bestPlace t_bestAdds t_regret t_z t_s t_comes t_begins t_move x1 x2 x3 x4  k83 hk83 (lp (fun k x => b_X8_findsBest_127 k83 x1 x2 x3 k x.1 x.2.1 x.2.2.1 x.2.2.2.1 x.2.2.2.2.1 x.2.2.2.2.2.1 x.2.2.2.2.2.2.1 x.2.2.2.2.2.2.2) n) (fun x4' t_s' t_comes' t_begins' t_back' t_waits' t_loads' t_move'  h S hl => ih x4' t_s' t_comes' t_begins' t_back' t_waits' t_loads' t_move'  h S hl) hf S hl
set_option maxRecDepth 100000 in
set_option maxHeartbeats 4000000 in
theorem k_X8_findsBest_83 (C : Cx p s m args meth c cX8_findsBest (some .boolean) 7 RX8 G A) (t_isKept : Int32) (t_work : Int32) (t_kind : Int32) (t_letters : Int32) (t_at : Int32) (t_fault : Int32) (t_back : Int32) (t_waits : Int32) (t_miles : Int32) (t_loads : Int32) (t_bestRound : Int32) (t_bestPlace : Int32) (t_bestAdds : Int32) (t_regret : Int32) (t_z : Int32) (t_s : Nat → Int32) (t_comes : Nat → Int32) (t_begins : Nat → Int32) (t_move : Nat → Int32) (x1 : Int32) (k83 : Int32 × (Nat → Int32) × (Nat → Int32) × (Nat → Int32) × Int32 × Int32 × Int32 × (Nat → Int32) → Option (Int32 × (Nat → Int32) × (Nat → Int32) × (Nat → Int32) × Int32 × Int32 × Int32 × (Nat → Int32))) (hk83 : ∀ {H : Heap} {locs : List Loc} {ls : Array Slot} (x1' : Int32) (t_s' : Nat → Int32) (t_comes' : Nat → Int32) (t_begins' : Nat → Int32) (t_back' : Int32) (t_waits' : Int32) (t_loads' : Int32) (t_move' : Nat → Int32), k83 (x1', t_s', t_comes', t_begins', t_back', t_waits', t_loads', t_move') = some (r, z_t_s, z_t_comes, z_t_begins, z_t_back, z_t_waits, z_t_loads, z_t_move) → St G A s.heap H locs (w_X8_findsBest G a_t a_t_s a_t_image a_t_mind a_t_aside a_t_text a_t_read a_t_comes a_t_begins a_t_latest a_t_move a_t_sort a_t_items a_t_cell a_t_carried t_isKept t_work t_kind t_letters t_at t_fault t_back' t_waits' t_miles t_loads' t_bestRound t_bestPlace t_bestAdds t_regret t_z t_s' t_comes' t_begins' t_move') → lv_has ls 7 [(0, .ref a_t), (1, .int x1')] → W p l e rm_X8_findsBest s m args below meth c H locs 0 0 (QI G below args s A r (w_X8_findsBest G a_t a_t_s a_t_image a_t_mind a_t_aside a_t_text a_t_read a_t_comes a_t_begins a_t_latest a_t_move a_t_sort a_t_items a_t_cell a_t_carried t_isKept t_work t_kind t_letters t_at t_fault z_t_back z_t_waits t_miles z_t_loads t_bestRound t_bestPlace t_bestAdds t_regret t_z z_t_s z_t_comes z_t_begins z_t_move)) (F0 m 83 ls [])) {H : Heap} {locs : List Loc} {ls : Array Slot} (hf : b_X8_findsBest_83 k83 x1 t_s t_comes t_begins t_back t_waits t_loads t_move = some (r, z_t_s, z_t_comes, z_t_begins, z_t_back, z_t_waits, z_t_loads, z_t_move)) (S : St G A s.heap H locs (w_X8_findsBest G a_t a_t_s a_t_image a_t_mind a_t_aside a_t_text a_t_read a_t_comes a_t_begins a_t_latest a_t_move a_t_sort a_t_items a_t_cell a_t_carried t_isKept t_work t_kind t_letters t_at t_fault t_back t_waits t_miles t_loads t_bestRound t_bestPlace t_bestAdds t_regret t_z t_s t_comes t_begins t_move)) (hl : lv_has ls 7 [(0, .ref a_t), (1, .int x1)]) : W p l e rm_X8_findsBest s m args below meth c H locs 0 0 (QI G below args s A r (w_X8_findsBest G a_t a_t_s a_t_image a_t_mind a_t_aside a_t_text a_t_read a_t_comes a_t_begins a_t_latest a_t_move a_t_sort a_t_items a_t_cell a_t_carried t_isKept t_work t_kind t_letters t_at t_fault z_t_back z_t_waits t_miles z_t_loads t_bestRound t_bestPlace t_bestAdds t_regret t_z z_t_s z_t_comes z_t_begins z_t_move)) (F0 m 83 ls []) := by
  unfold b_X8_findsBest_83 at hf
  have hx := C.1
  have hb := C.2.1
  have hown := C.2.2.2.2.1
  have hts := C.2.2.2.2.2.1
  have hN := C.2.2.2.2.2.2.2.2.2.2
  refine lv_iload_n (pc := 83) hx hb dX8_findsBest_83 rfl (lv_at hl 1 rfl) ?_
  refine lv_aload_n (pc := 84) hx hb dX8_findsBest_84 rfl (lv_at hl 0 rfl) ?_
  refine x_get (pc := 85) (ci := 8) (T := TX8) (v := .ref a_t_s) C S 0 rfl rfl inlX8 0 (by decide) rfl qf_8_11 rfl dX8_findsBest_85 ?_
  refine lv_iconst (pc := 88) hx hb dX8_findsBest_88 ic_4 ?_
  refine x_iald (pc := 89) C S 1 rfl (vp_in_iff.mpr (by decide)) dX8_findsBest_89 ?_
  refine lv_icmp_ge (tgt := 213) (pc := 90) hx hb dX8_findsBest_90 (by decide) (fun c1 => ?_) (fun c1 => ?_)
  · have hf := ifp c1 hf
    refine lv_iconst (pc := 213) hx hb dX8_findsBest_213 ic_0 ?_
    refine lv_istore_n (pc := 214) (lv' := [(1, .int (0 : Int32)), (0, .ref a_t)]) hx hb dX8_findsBest_214 rfl hl (by decide) rfl (fun ls hl => ?_)
    exact h_X8_findsBest_215 C (t_isKept) (t_work) (t_kind) (t_letters) (t_at) (t_fault) (t_miles) (t_bestRound) (t_bestPlace) (t_bestAdds) (t_regret) (t_z) fu ((0 : Int32)) (t_s) (t_comes) (t_begins) (t_back) (t_waits) (t_loads) (t_move) hf S (lv_sub hl [1, 0] rfl)
  · have hf := ifn c1 hf
    refine lv_aload_n (pc := 93) hx hb dX8_findsBest_93 rfl (lv_at hl 0 rfl) ?_
    refine lv_iload_n (pc := 94) hx hb dX8_findsBest_94 rfl (lv_at hl 1 rfl) ?_
    obtain ⟨r2, hq2, hf⟩ := bd_e hf
    refine x_vI (pc := 95) (As := [.int x1]) (rest := []) (isC := [0, 1]) (ws' := (w_X8_findsBest G a_t a_t_s a_t_image a_t_mind a_t_aside a_t_text a_t_read a_t_comes a_t_begins a_t_latest a_t_move a_t_sort a_t_items a_t_cell a_t_carried t_isKept t_work t_kind t_letters t_at t_fault t_back t_waits t_miles t_loads t_bestRound t_bestPlace t_bestAdds t_regret t_z t_s t_comes t_begins t_move)) C S (c_X8_roundOf l G a_t a_t_s a_t_image a_t_mind a_t_aside a_t_text a_t_read a_t_comes a_t_begins a_t_latest a_t_move a_t_sort a_t_items a_t_cell a_t_carried t_isKept t_work t_kind t_letters t_at t_fault t_back t_waits t_miles t_loads t_bestRound t_bestPlace t_bestAdds t_regret t_z t_s x1 r2 hq2) (u_X8_findsBest_X8_roundOf_157 hts) (ci := 8) rfl 0 rfl rfl (by decide +kernel) [some 0, some 1, none, none, none] (by decide +kernel) rfl rfl rfl hl.1 rfl (Nat.le_of_ble_eq_true rfl) dX8_findsBest_95 (fun H locs S => ?_)
    refine lv_istore_n (pc := 98) (lv' := [(2, .int r2), (0, .ref a_t), (1, .int x1)]) hx hb dX8_findsBest_98 rfl hl (by decide) rfl (fun ls hl => ?_)
    refine lv_iload_n (pc := 99) hx hb dX8_findsBest_99 rfl (lv_at hl 0 rfl) ?_
    refine lv_if_lt (tgt := 207) (pc := 100) hx hb dX8_findsBest_100 (by decide) (fun c3 => ?_) (fun c3 => ?_)
    · have hf := ifp c3 hf
      refine lv_iinc (pc := 207) (v := (x1 + (1 : Int32))) (lv' := [(1, .int (x1 + (1 : Int32))), (2, .int r2), (0, .ref a_t)]) hx hb dX8_findsBest_207 hl (k := 2) rfl (congrArg (fun z => x1 + z) ic_1) (by decide) rfl (fun ls hl => ?_)
      refine lv_goto (tgt := 83) (pc := 210) hx hb dX8_findsBest_210 (by decide) ?_
      exact hk83 ((x1 + (1 : Int32))) (t_s) (t_comes) (t_begins) (t_back) (t_waits) (t_loads) (t_move)  hf S (lv_sub hl [2, 0] rfl)
    · have hf := ifn c3 hf
      refine lv_aload_n (pc := 103) hx hb dX8_findsBest_103 rfl (lv_at hl 1 rfl) ?_
      refine lv_iload_n (pc := 104) hx hb dX8_findsBest_104 rfl (lv_at hl 2 rfl) ?_
      refine lv_bipush (pc := 105) hx hb dX8_findsBest_105 bc_6 ?_
      obtain ⟨r4, hq4, hf⟩ := bd_e hf
      refine x_vI (pc := 107) (As := [.int x1, .int (6 : Int32)]) (rest := []) (isC := [0, 1]) (ws' := (w_X8_findsBest G a_t a_t_s a_t_image a_t_mind a_t_aside a_t_text a_t_read a_t_comes a_t_begins a_t_latest a_t_move a_t_sort a_t_items a_t_cell a_t_carried t_isKept t_work t_kind t_letters t_at t_fault t_back t_waits t_miles t_loads t_bestRound t_bestPlace t_bestAdds t_regret t_z t_s t_comes t_begins t_move)) C S (c_X8_stopAt l G a_t a_t_s a_t_image a_t_mind a_t_aside a_t_text a_t_read a_t_comes a_t_begins a_t_latest a_t_move a_t_sort a_t_items a_t_cell a_t_carried t_isKept t_work t_kind t_letters t_at t_fault t_back t_waits t_miles t_loads t_bestRound t_bestPlace t_bestAdds t_regret t_z t_s x1 (6 : Int32) r4 hq4) (u_X8_findsBest_X8_stopAt_78 hts) (ci := 8) rfl 0 rfl rfl (by decide +kernel) [some 0, some 1, none, none, none] (by decide +kernel) rfl rfl rfl hl.1 rfl (Nat.le_of_ble_eq_true rfl) dX8_findsBest_107 (fun H locs S => ?_)
      refine lv_iconst (pc := 110) hx hb dX8_findsBest_110 ic_1 ?_
      refine lv_icmp_ne (tgt := 117) (pc := 111) hx hb dX8_findsBest_111 (by decide) (fun c5 => ?_) (fun c5 => ?_)
      · have hf := ifn c5 hf
        refine lv_aload_n (pc := 117) hx hb dX8_findsBest_117 rfl (lv_at hl 1 rfl) ?_
        refine lv_iload_n (pc := 118) hx hb dX8_findsBest_118 rfl (lv_at hl 0 rfl) ?_
        refine lv_iload_n (pc := 119) hx hb dX8_findsBest_119 rfl (lv_at hl 2 rfl) ?_
        obtain ⟨r6, hq6, hf⟩ := bd_e hf
        refine x_vI (pc := 120) (As := [.int r2, .int x1]) (rest := []) (isC := [0, 1]) (ws' := (w_X8_findsBest G a_t a_t_s a_t_image a_t_mind a_t_aside a_t_text a_t_read a_t_comes a_t_begins a_t_latest a_t_move a_t_sort a_t_items a_t_cell a_t_carried t_isKept t_work t_kind t_letters t_at t_fault t_back t_waits t_miles t_loads t_bestRound t_bestPlace t_bestAdds t_regret t_z t_s t_comes t_begins t_move)) C S (c_X8_placeIn l G a_t a_t_s a_t_image a_t_mind a_t_aside a_t_text a_t_read a_t_comes a_t_begins a_t_latest a_t_move a_t_sort a_t_items a_t_cell a_t_carried t_isKept t_work t_kind t_letters t_at t_fault t_back t_waits t_miles t_loads t_bestRound t_bestPlace t_bestAdds t_regret t_z t_s r2 x1 r6 hq6) (u_X8_findsBest_X8_placeIn_66 hts) (ci := 8) rfl 0 rfl rfl (by decide +kernel) [some 0, some 1, none, none, none] (by decide +kernel) rfl rfl rfl hl.1 rfl (Nat.le_of_ble_eq_true rfl) dX8_findsBest_120 (fun H locs S => ?_)
        refine lv_istore_n (pc := 123) (lv' := [(3, .int r6), (2, .int r2), (0, .ref a_t), (1, .int x1)]) hx hb dX8_findsBest_123 rfl hl (by decide) rfl (fun ls hl => ?_)
        refine lv_iconst (pc := 124) hx hb dX8_findsBest_124 ic_0 ?_
        refine lv_istore (pc := 125) (lv' := [(4, .int (0 : Int32)), (3, .int r6), (2, .int r2), (0, .ref a_t), (1, .int x1)]) hx hb dX8_findsBest_125 hl (by decide) rfl (fun ls hl => ?_)
        exact h_X8_findsBest_127 C (t_isKept) (t_work) (t_kind) (t_letters) (t_at) (t_fault) (t_miles) (t_bestRound) (t_bestPlace) (t_bestAdds) (t_regret) (t_z) (x1) (r2) (r6) k83 hk83 fu ((0 : Int32)) (t_s) (t_comes) (t_begins) (t_back) (t_waits) (t_loads) (t_move) hf S (lv_sub hl [3, 4, 2, 1, 0] rfl)
      · have hf := ifp c5 hf
        refine lv_goto (tgt := 207) (pc := 114) hx hb dX8_findsBest_114 (by decide) ?_
        refine lv_iinc (pc := 207) (v := (x1 + (1 : Int32))) (lv' := [(1, .int (x1 + (1 : Int32))), (2, .int r2), (0, .ref a_t)]) hx hb dX8_findsBest_207 hl (k := 2) rfl (congrArg (fun z => x1 + z) ic_1) (by decide) rfl (fun ls hl => ?_)
        refine lv_goto (tgt := 83) (pc := 210) hx hb dX8_findsBest_210 (by decide) ?_
        exact hk83 ((x1 + (1 : Int32))) (t_s) (t_comes) (t_begins) (t_back) (t_waits) (t_loads) (t_move)  hf S (lv_sub hl [2, 0] rfl)
set_option maxRecDepth 100000 in
set_option maxHeartbeats 4000000 in
theorem h_X8_findsBest_83 (C : Cx p s m args meth c cX8_findsBest (some .boolean) 7 RX8 G A) (t_isKept : Int32) (t_work : Int32) (t_kind : Int32) (t_letters : Int32) (t_at : Int32) (t_fault : Int32) (t_miles : Int32) (t_bestRound : Int32) (t_bestPlace : Int32) (t_bestAdds : Int32) (t_regret : Int32) (t_z : Int32) : ∀ (n : Nat) (x1 : Int32) (t_s : Nat → Int32) (t_comes : Nat → Int32) (t_begins : Nat → Int32) (t_back : Int32) (t_waits : Int32) (t_loads : Int32) (t_move : Nat → Int32) {H : Heap} {locs : List Loc} {ls : Array Slot} (hf : lp (fun k x => b_X8_findsBest_83 k x.1 x.2.1 x.2.2.1 x.2.2.2.1 x.2.2.2.2.1 x.2.2.2.2.2.1 x.2.2.2.2.2.2.1 x.2.2.2.2.2.2.2) n (x1, t_s, t_comes, t_begins, t_back, t_waits, t_loads, t_move) = some (r, z_t_s, z_t_comes, z_t_begins, z_t_back, z_t_waits, z_t_loads, z_t_move)) (S : St G A s.heap H locs (w_X8_findsBest G a_t a_t_s a_t_image a_t_mind a_t_aside a_t_text a_t_read a_t_comes a_t_begins a_t_latest a_t_move a_t_sort a_t_items a_t_cell a_t_carried t_isKept t_work t_kind t_letters t_at t_fault t_back t_waits t_miles t_loads t_bestRound t_bestPlace t_bestAdds t_regret t_z t_s t_comes t_begins t_move)) (hl : lv_has ls 7 [(0, .ref a_t), (1, .int x1)]), W p l e rm_X8_findsBest s m args below meth c H locs 0 0 (QI G below args s A r (w_X8_findsBest G a_t a_t_s a_t_image a_t_mind a_t_aside a_t_text a_t_read a_t_comes a_t_begins a_t_latest a_t_move a_t_sort a_t_items a_t_cell a_t_carried t_isKept t_work t_kind t_letters t_at t_fault z_t_back z_t_waits t_miles z_t_loads t_bestRound t_bestPlace t_bestAdds t_regret t_z z_t_s z_t_comes z_t_begins z_t_move)) (F0 m 83 ls []) := by
  intro n
  induction n with
  | zero =>
    intro x1 t_s t_comes t_begins t_back t_waits t_loads t_move  H locs ls hf
    cases hf
  | succ n ih =>
    intro x1 t_s t_comes t_begins t_back t_waits t_loads t_move  H locs ls hf S hl
    have hf : b_X8_findsBest_83 (lp (fun k x => b_X8_findsBest_83 k x.1 x.2.1 x.2.2.1 x.2.2.2.1 x.2.2.2.2.1 x.2.2.2.2.2.1 x.2.2.2.2.2.2.1 x.2.2.2.2.2.2.2) n) x1 t_s t_comes t_begins t_back t_waits t_loads t_move = some (r, z_t_s, z_t_comes, z_t_begins, z_t_back, z_t_waits, z_t_loads, z_t_move) := hf
    exact k_X8_findsBest_83 C t_isKept t_work t_kind t_letters t_at t_fault t_back t_waits t_miles t_loads t_bestRound t_bestPlace t_bestAdds t_regret t_z t_s t_comes t_begins t_move x1  (lp (fun k x => b_X8_findsBest_83 k x.1 x.2.1 x.2.2.1 x.2.2.2.1 x.2.2.2.2.1 x.2.2.2.2.2.1 x.2.2.2.2.2.2.1 x.2.2.2.2.2.2.2) n) (fun x1' t_s' t_comes' t_begins' t_back' t_waits' t_loads' t_move'  h S hl => ih x1' t_s' t_comes' t_begins' t_back' t_waits' t_loads' t_move'  h S hl) hf S hl
set_option maxRecDepth 100000 in
set_option maxHeartbeats 4000000 in
theorem k_X8_findsBest_38 (C : Cx p s m args meth c cX8_findsBest (some .boolean) 7 RX8 G A) (t_isKept : Int32) (t_work : Int32) (t_kind : Int32) (t_letters : Int32) (t_at : Int32) (t_fault : Int32) (t_back : Int32) (t_waits : Int32) (t_miles : Int32) (t_loads : Int32) (t_bestRound : Int32) (t_bestPlace : Int32) (t_bestAdds : Int32) (t_regret : Int32) (t_z : Int32) (t_s : Nat → Int32) (t_comes : Nat → Int32) (t_begins : Nat → Int32) (t_move : Nat → Int32) (x1 : Int32) (x2 : Int32) (x3 : Int32) (k17 : Int32 × (Nat → Int32) × (Nat → Int32) × (Nat → Int32) × Int32 × Int32 × Int32 × (Nat → Int32) → Option (Int32 × (Nat → Int32) × (Nat → Int32) × (Nat → Int32) × Int32 × Int32 × Int32 × (Nat → Int32))) (hk17 : ∀ {H : Heap} {locs : List Loc} {ls : Array Slot} (x1' : Int32) (t_s' : Nat → Int32) (t_comes' : Nat → Int32) (t_begins' : Nat → Int32) (t_back' : Int32) (t_waits' : Int32) (t_loads' : Int32) (t_move' : Nat → Int32), k17 (x1', t_s', t_comes', t_begins', t_back', t_waits', t_loads', t_move') = some (r, z_t_s, z_t_comes, z_t_begins, z_t_back, z_t_waits, z_t_loads, z_t_move) → St G A s.heap H locs (w_X8_findsBest G a_t a_t_s a_t_image a_t_mind a_t_aside a_t_text a_t_read a_t_comes a_t_begins a_t_latest a_t_move a_t_sort a_t_items a_t_cell a_t_carried t_isKept t_work t_kind t_letters t_at t_fault t_back' t_waits' t_miles t_loads' t_bestRound t_bestPlace t_bestAdds t_regret t_z t_s' t_comes' t_begins' t_move') → lv_has ls 7 [(0, .ref a_t), (1, .int x1')] → W p l e rm_X8_findsBest s m args below meth c H locs 0 0 (QI G below args s A r (w_X8_findsBest G a_t a_t_s a_t_image a_t_mind a_t_aside a_t_text a_t_read a_t_comes a_t_begins a_t_latest a_t_move a_t_sort a_t_items a_t_cell a_t_carried t_isKept t_work t_kind t_letters t_at t_fault z_t_back z_t_waits t_miles z_t_loads t_bestRound t_bestPlace t_bestAdds t_regret t_z z_t_s z_t_comes z_t_begins z_t_move)) (F0 m 17 ls [])) (k24 : Int32 × (Nat → Int32) × (Nat → Int32) × (Nat → Int32) × Int32 × Int32 × Int32 × (Nat → Int32) → Option (Int32 × (Nat → Int32) × (Nat → Int32) × (Nat → Int32) × Int32 × Int32 × Int32 × (Nat → Int32))) (hk24 : ∀ {H : Heap} {locs : List Loc} {ls : Array Slot} (x2' : Int32) (t_s' : Nat → Int32) (t_comes' : Nat → Int32) (t_begins' : Nat → Int32) (t_back' : Int32) (t_waits' : Int32) (t_loads' : Int32) (t_move' : Nat → Int32), k24 (x2', t_s', t_comes', t_begins', t_back', t_waits', t_loads', t_move') = some (r, z_t_s, z_t_comes, z_t_begins, z_t_back, z_t_waits, z_t_loads, z_t_move) → St G A s.heap H locs (w_X8_findsBest G a_t a_t_s a_t_image a_t_mind a_t_aside a_t_text a_t_read a_t_comes a_t_begins a_t_latest a_t_move a_t_sort a_t_items a_t_cell a_t_carried t_isKept t_work t_kind t_letters t_at t_fault t_back' t_waits' t_miles t_loads' t_bestRound t_bestPlace t_bestAdds t_regret t_z t_s' t_comes' t_begins' t_move') → lv_has ls 7 [(0, .ref a_t), (1, .int x1), (2, .int x2')] → W p l e rm_X8_findsBest s m args below meth c H locs 0 0 (QI G below args s A r (w_X8_findsBest G a_t a_t_s a_t_image a_t_mind a_t_aside a_t_text a_t_read a_t_comes a_t_begins a_t_latest a_t_move a_t_sort a_t_items a_t_cell a_t_carried t_isKept t_work t_kind t_letters t_at t_fault z_t_back z_t_waits t_miles z_t_loads t_bestRound t_bestPlace t_bestAdds t_regret t_z z_t_s z_t_comes z_t_begins z_t_move)) (F0 m 24 ls [])) (k38 : Int32 × (Nat → Int32) × (Nat → Int32) × (Nat → Int32) × Int32 × Int32 × Int32 × (Nat → Int32) → Option (Int32 × (Nat → Int32) × (Nat → Int32) × (Nat → Int32) × Int32 × Int32 × Int32 × (Nat → Int32))) (hk38 : ∀ {H : Heap} {locs : List Loc} {ls : Array Slot} (x3' : Int32) (t_s' : Nat → Int32) (t_comes' : Nat → Int32) (t_begins' : Nat → Int32) (t_back' : Int32) (t_waits' : Int32) (t_loads' : Int32) (t_move' : Nat → Int32), k38 (x3', t_s', t_comes', t_begins', t_back', t_waits', t_loads', t_move') = some (r, z_t_s, z_t_comes, z_t_begins, z_t_back, z_t_waits, z_t_loads, z_t_move) → St G A s.heap H locs (w_X8_findsBest G a_t a_t_s a_t_image a_t_mind a_t_aside a_t_text a_t_read a_t_comes a_t_begins a_t_latest a_t_move a_t_sort a_t_items a_t_cell a_t_carried t_isKept t_work t_kind t_letters t_at t_fault t_back' t_waits' t_miles t_loads' t_bestRound t_bestPlace t_bestAdds t_regret t_z t_s' t_comes' t_begins' t_move') → lv_has ls 7 [(0, .ref a_t), (1, .int x1), (2, .int x2), (3, .int x3')] → W p l e rm_X8_findsBest s m args below meth c H locs 0 0 (QI G below args s A r (w_X8_findsBest G a_t a_t_s a_t_image a_t_mind a_t_aside a_t_text a_t_read a_t_comes a_t_begins a_t_latest a_t_move a_t_sort a_t_items a_t_cell a_t_carried t_isKept t_work t_kind t_letters t_at t_fault z_t_back z_t_waits t_miles z_t_loads t_bestRound t_bestPlace t_bestAdds t_regret t_z z_t_s z_t_comes z_t_begins z_t_move)) (F0 m 38 ls [])) {H : Heap} {locs : List Loc} {ls : Array Slot} (hf : b_X8_findsBest_38 k17 k24 x1 x2 k38 x3 t_s t_comes t_begins t_back t_waits t_loads t_move = some (r, z_t_s, z_t_comes, z_t_begins, z_t_back, z_t_waits, z_t_loads, z_t_move)) (S : St G A s.heap H locs (w_X8_findsBest G a_t a_t_s a_t_image a_t_mind a_t_aside a_t_text a_t_read a_t_comes a_t_begins a_t_latest a_t_move a_t_sort a_t_items a_t_cell a_t_carried t_isKept t_work t_kind t_letters t_at t_fault t_back t_waits t_miles t_loads t_bestRound t_bestPlace t_bestAdds t_regret t_z t_s t_comes t_begins t_move)) (hl : lv_has ls 7 [(0, .ref a_t), (1, .int x1), (2, .int x2), (3, .int x3)]) : W p l e rm_X8_findsBest s m args below meth c H locs 0 0 (QI G below args s A r (w_X8_findsBest G a_t a_t_s a_t_image a_t_mind a_t_aside a_t_text a_t_read a_t_comes a_t_begins a_t_latest a_t_move a_t_sort a_t_items a_t_cell a_t_carried t_isKept t_work t_kind t_letters t_at t_fault z_t_back z_t_waits t_miles z_t_loads t_bestRound t_bestPlace t_bestAdds t_regret t_z z_t_s z_t_comes z_t_begins z_t_move)) (F0 m 38 ls []) := by
  unfold b_X8_findsBest_38 at hf
  have hx := C.1
  have hb := C.2.1
  have hown := C.2.2.2.2.1
  have hts := C.2.2.2.2.2.1
  have hN := C.2.2.2.2.2.2.2.2.2.2
  refine lv_iload_n (pc := 38) hx hb dX8_findsBest_38 rfl (lv_at hl 3 rfl) ?_
  refine lv_aload_n (pc := 39) hx hb dX8_findsBest_39 rfl (lv_at hl 0 rfl) ?_
  refine lv_iload_n (pc := 40) hx hb dX8_findsBest_40 rfl (lv_at hl 1 rfl) ?_
  refine lv_iconst (pc := 41) hx hb dX8_findsBest_41 ic_3 ?_
  obtain ⟨r1, hq1, hf⟩ := bd_e hf
  refine x_vI (pc := 42) (As := [.int x1, .int (3 : Int32)]) (rest := [.int x3]) (isC := [0, 1]) (ws' := (w_X8_findsBest G a_t a_t_s a_t_image a_t_mind a_t_aside a_t_text a_t_read a_t_comes a_t_begins a_t_latest a_t_move a_t_sort a_t_items a_t_cell a_t_carried t_isKept t_work t_kind t_letters t_at t_fault t_back t_waits t_miles t_loads t_bestRound t_bestPlace t_bestAdds t_regret t_z t_s t_comes t_begins t_move)) C S (c_X8_roundAt l G a_t a_t_s a_t_image a_t_mind a_t_aside a_t_text a_t_read a_t_comes a_t_begins a_t_latest a_t_move a_t_sort a_t_items a_t_cell a_t_carried t_isKept t_work t_kind t_letters t_at t_fault t_back t_waits t_miles t_loads t_bestRound t_bestPlace t_bestAdds t_regret t_z t_s x1 (3 : Int32) r1 hq1) (u_X8_findsBest_X8_roundAt_59 hts) (ci := 8) rfl 0 rfl rfl (by decide +kernel) [some 0, some 1, none, none, none] (by decide +kernel) rfl rfl rfl hl.1 rfl (Nat.le_of_ble_eq_true rfl) dX8_findsBest_42 (fun H locs S => ?_)
  refine lv_icmp_ge (tgt := 69) (pc := 45) hx hb dX8_findsBest_45 (by decide) (fun c2 => ?_) (fun c2 => ?_)
  · have hf := ifp c2 hf
    refine lv_iinc (pc := 69) (v := (x2 + (1 : Int32))) (lv' := [(2, .int (x2 + (1 : Int32))), (0, .ref a_t), (1, .int x1), (3, .int x3)]) hx hb dX8_findsBest_69 hl (k := 2) rfl (congrArg (fun z => x2 + z) ic_1) (by decide) rfl (fun ls hl => ?_)
    refine lv_goto (tgt := 24) (pc := 72) hx hb dX8_findsBest_72 (by decide) ?_
    exact hk24 ((x2 + (1 : Int32))) (t_s) (t_comes) (t_begins) (t_back) (t_waits) (t_loads) (t_move)  hf S (lv_sub hl [1, 2, 0] rfl)
  · have hf := ifn c2 hf
    refine lv_aload_n (pc := 48) hx hb dX8_findsBest_48 rfl (lv_at hl 0 rfl) ?_
    refine lv_iconst (pc := 49) hx hb dX8_findsBest_49 ic_1 ?_
    refine lv_aload_n (pc := 50) hx hb dX8_findsBest_50 rfl (lv_at hl 0 rfl) ?_
    refine lv_iload_n (pc := 51) hx hb dX8_findsBest_51 rfl (lv_at hl 1 rfl) ?_
    refine lv_iload_n (pc := 52) hx hb dX8_findsBest_52 rfl (lv_at hl 2 rfl) ?_
    refine lv_iload_n (pc := 53) hx hb dX8_findsBest_53 rfl (lv_at hl 3 rfl) ?_
    obtain ⟨⟨r3, o3_t_s, o3_t_comes, o3_t_begins, o3_t_back, o3_t_waits, o3_t_loads⟩, hq3, hf⟩ := bd_e hf
    refine x_vI (pc := 54) (As := [.int x1, .int x2, .int x3]) (rest := [.int (1 : Int32), .ref a_t]) (isC := [0, 1, 2, 3]) (ws' := (w_X8_findsBest G a_t a_t_s a_t_image a_t_mind a_t_aside a_t_text a_t_read a_t_comes a_t_begins a_t_latest a_t_move a_t_sort a_t_items a_t_cell a_t_carried t_isKept t_work t_kind t_letters t_at t_fault o3_t_back o3_t_waits t_miles o3_t_loads t_bestRound t_bestPlace t_bestAdds t_regret t_z o3_t_s o3_t_comes o3_t_begins t_move)) C S (c_X8_turnGains l G a_t a_t_s a_t_image a_t_mind a_t_aside a_t_text a_t_read a_t_comes a_t_begins a_t_latest a_t_move a_t_sort a_t_items a_t_cell a_t_carried t_isKept t_work t_kind t_letters t_at t_fault t_back t_waits t_miles t_loads t_bestRound t_bestPlace t_bestAdds t_regret t_z t_s t_comes t_begins x1 x2 x3 r3 o3_t_s o3_t_comes o3_t_begins o3_t_back o3_t_waits o3_t_loads hq3) (u_X8_findsBest_X8_turnGains_220 hts) (ci := 8) rfl 0 rfl rfl (by decide +kernel) [some 0, some 1, some 2, some 3, none] (by decide +kernel) rfl rfl rfl hl.1 rfl (Nat.le_of_ble_eq_true rfl) dX8_findsBest_54 (fun H locs S => ?_)
    refine lv_iload_n (pc := 57) hx hb dX8_findsBest_57 rfl (lv_at hl 1 rfl) ?_
    refine lv_iload_n (pc := 58) hx hb dX8_findsBest_58 rfl (lv_at hl 2 rfl) ?_
    refine lv_iload_n (pc := 59) hx hb dX8_findsBest_59 rfl (lv_at hl 3 rfl) ?_
    obtain ⟨o4_t_move, hq4, hf⟩ := bd_e hf
    refine x_vV (pc := 60) (As := [.int (1 : Int32), .int r3, .int x1, .int x2, .int x3]) (rest := []) (isC := [0, 4]) (ws' := (w_X8_findsBest G a_t a_t_s a_t_image a_t_mind a_t_aside a_t_text a_t_read a_t_comes a_t_begins a_t_latest a_t_move a_t_sort a_t_items a_t_cell a_t_carried t_isKept t_work t_kind t_letters t_at t_fault o3_t_back o3_t_waits t_miles o3_t_loads t_bestRound t_bestPlace t_bestAdds t_regret t_z o3_t_s o3_t_comes o3_t_begins o4_t_move)) C S (c_X8_finds l G a_t a_t_s a_t_image a_t_mind a_t_aside a_t_text a_t_read a_t_comes a_t_begins a_t_latest a_t_move a_t_sort a_t_items a_t_cell a_t_carried t_isKept t_work t_kind t_letters t_at t_fault o3_t_back o3_t_waits t_miles o3_t_loads t_bestRound t_bestPlace t_bestAdds t_regret t_z t_move (1 : Int32) r3 x1 x2 x3 o4_t_move hq4) (u_X8_findsBest_X8_finds_223 hts) (ci := 8) rfl 0 rfl rfl (by decide +kernel) [some 0, none, none, none, some 1] (by decide +kernel) rfl rfl rfl hl.1 rfl (Nat.le_of_ble_eq_true rfl) dX8_findsBest_60 (fun H locs S => ?_)
    refine lv_iinc (pc := 63) (v := (x3 + (1 : Int32))) (lv' := [(3, .int (x3 + (1 : Int32))), (0, .ref a_t), (1, .int x1), (2, .int x2)]) hx hb dX8_findsBest_63 hl (k := 3) rfl (congrArg (fun z => x3 + z) ic_1) (by decide) rfl (fun ls hl => ?_)
    refine lv_goto (tgt := 38) (pc := 66) hx hb dX8_findsBest_66 (by decide) ?_
    exact hk38 ((x3 + (1 : Int32))) (o3_t_s) (o3_t_comes) (o3_t_begins) (o3_t_back) (o3_t_waits) (o3_t_loads) (o4_t_move)  hf S (lv_sub hl [1, 2, 3, 0] rfl)
set_option maxRecDepth 100000 in
set_option maxHeartbeats 4000000 in
theorem h_X8_findsBest_38 (C : Cx p s m args meth c cX8_findsBest (some .boolean) 7 RX8 G A) (t_isKept : Int32) (t_work : Int32) (t_kind : Int32) (t_letters : Int32) (t_at : Int32) (t_fault : Int32) (t_miles : Int32) (t_bestRound : Int32) (t_bestPlace : Int32) (t_bestAdds : Int32) (t_regret : Int32) (t_z : Int32) (x1 : Int32) (x2 : Int32) (k17 : Int32 × (Nat → Int32) × (Nat → Int32) × (Nat → Int32) × Int32 × Int32 × Int32 × (Nat → Int32) → Option (Int32 × (Nat → Int32) × (Nat → Int32) × (Nat → Int32) × Int32 × Int32 × Int32 × (Nat → Int32))) (hk17 : ∀ {H : Heap} {locs : List Loc} {ls : Array Slot} (x1' : Int32) (t_s' : Nat → Int32) (t_comes' : Nat → Int32) (t_begins' : Nat → Int32) (t_back' : Int32) (t_waits' : Int32) (t_loads' : Int32) (t_move' : Nat → Int32), k17 (x1', t_s', t_comes', t_begins', t_back', t_waits', t_loads', t_move') = some (r, z_t_s, z_t_comes, z_t_begins, z_t_back, z_t_waits, z_t_loads, z_t_move) → St G A s.heap H locs (w_X8_findsBest G a_t a_t_s a_t_image a_t_mind a_t_aside a_t_text a_t_read a_t_comes a_t_begins a_t_latest a_t_move a_t_sort a_t_items a_t_cell a_t_carried t_isKept t_work t_kind t_letters t_at t_fault t_back' t_waits' t_miles t_loads' t_bestRound t_bestPlace t_bestAdds t_regret t_z t_s' t_comes' t_begins' t_move') → lv_has ls 7 [(0, .ref a_t), (1, .int x1')] → W p l e rm_X8_findsBest s m args below meth c H locs 0 0 (QI G below args s A r (w_X8_findsBest G a_t a_t_s a_t_image a_t_mind a_t_aside a_t_text a_t_read a_t_comes a_t_begins a_t_latest a_t_move a_t_sort a_t_items a_t_cell a_t_carried t_isKept t_work t_kind t_letters t_at t_fault z_t_back z_t_waits t_miles z_t_loads t_bestRound t_bestPlace t_bestAdds t_regret t_z z_t_s z_t_comes z_t_begins z_t_move)) (F0 m 17 ls [])) (k24 : Int32 × (Nat → Int32) × (Nat → Int32) × (Nat → Int32) × Int32 × Int32 × Int32 × (Nat → Int32) → Option (Int32 × (Nat → Int32) × (Nat → Int32) × (Nat → Int32) × Int32 × Int32 × Int32 × (Nat → Int32))) (hk24 : ∀ {H : Heap} {locs : List Loc} {ls : Array Slot} (x2' : Int32) (t_s' : Nat → Int32) (t_comes' : Nat → Int32) (t_begins' : Nat → Int32) (t_back' : Int32) (t_waits' : Int32) (t_loads' : Int32) (t_move' : Nat → Int32), k24 (x2', t_s', t_comes', t_begins', t_back', t_waits', t_loads', t_move') = some (r, z_t_s, z_t_comes, z_t_begins, z_t_back, z_t_waits, z_t_loads, z_t_move) → St G A s.heap H locs (w_X8_findsBest G a_t a_t_s a_t_image a_t_mind a_t_aside a_t_text a_t_read a_t_comes a_t_begins a_t_latest a_t_move a_t_sort a_t_items a_t_cell a_t_carried t_isKept t_work t_kind t_letters t_at t_fault t_back' t_waits' t_miles t_loads' t_bestRound t_bestPlace t_bestAdds t_regret t_z t_s' t_comes' t_begins' t_move') → lv_has ls 7 [(0, .ref a_t), (1, .int x1), (2, .int x2')] → W p l e rm_X8_findsBest s m args below meth c H locs 0 0 (QI G below args s A r (w_X8_findsBest G a_t a_t_s a_t_image a_t_mind a_t_aside a_t_text a_t_read a_t_comes a_t_begins a_t_latest a_t_move a_t_sort a_t_items a_t_cell a_t_carried t_isKept t_work t_kind t_letters t_at t_fault z_t_back z_t_waits t_miles z_t_loads t_bestRound t_bestPlace t_bestAdds t_regret t_z z_t_s z_t_comes z_t_begins z_t_move)) (F0 m 24 ls [])) : ∀ (n : Nat) (x3 : Int32) (t_s : Nat → Int32) (t_comes : Nat → Int32) (t_begins : Nat → Int32) (t_back : Int32) (t_waits : Int32) (t_loads : Int32) (t_move : Nat → Int32) {H : Heap} {locs : List Loc} {ls : Array Slot} (hf : lp (fun k x => b_X8_findsBest_38 k17 k24 x1 x2 k x.1 x.2.1 x.2.2.1 x.2.2.2.1 x.2.2.2.2.1 x.2.2.2.2.2.1 x.2.2.2.2.2.2.1 x.2.2.2.2.2.2.2) n (x3, t_s, t_comes, t_begins, t_back, t_waits, t_loads, t_move) = some (r, z_t_s, z_t_comes, z_t_begins, z_t_back, z_t_waits, z_t_loads, z_t_move)) (S : St G A s.heap H locs (w_X8_findsBest G a_t a_t_s a_t_image a_t_mind a_t_aside a_t_text a_t_read a_t_comes a_t_begins a_t_latest a_t_move a_t_sort a_t_items a_t_cell a_t_carried t_isKept t_work t_kind t_letters t_at t_fault t_back t_waits t_miles t_loads t_bestRound t_bestPlace t_bestAdds t_regret t_z t_s t_comes t_begins t_move)) (hl : lv_has ls 7 [(0, .ref a_t), (1, .int x1), (2, .int x2), (3, .int x3)]), W p l e rm_X8_findsBest s m args below meth c H locs 0 0 (QI G below args s A r (w_X8_findsBest G a_t a_t_s a_t_image a_t_mind a_t_aside a_t_text a_t_read a_t_comes a_t_begins a_t_latest a_t_move a_t_sort a_t_items a_t_cell a_t_carried t_isKept t_work t_kind t_letters t_at t_fault z_t_back z_t_waits t_miles z_t_loads t_bestRound t_bestPlace t_bestAdds t_regret t_z z_t_s z_t_comes z_t_begins z_t_move)) (F0 m 38 ls []) := by
  intro n
  induction n with
  | zero =>
    intro x3 t_s t_comes t_begins t_back t_waits t_loads t_move  H locs ls hf
    cases hf
  | succ n ih =>
    intro x3 t_s t_comes t_begins t_back t_waits t_loads t_move  H locs ls hf S hl
    have hf : b_X8_findsBest_38 k17 k24 x1 x2 (lp (fun k x => b_X8_findsBest_38 k17 k24 x1 x2 k x.1 x.2.1 x.2.2.1 x.2.2.2.1 x.2.2.2.2.1 x.2.2.2.2.2.1 x.2.2.2.2.2.2.1 x.2.2.2.2.2.2.2) n) x3 t_s t_comes t_begins t_back t_waits t_loads t_move = some (r, z_t_s, z_t_comes, z_t_begins, z_t_back, z_t_waits, z_t_loads, z_t_move) := hf
    exact k_X8_findsBest_38 C t_isKept t_work t_kind t_letters t_at t_fault t_back t_waits t_miles t_loads t_bestRound t_bestPlace t_bestAdds t_regret t_z t_s t_comes t_begins t_move x1 x2 x3  k17 hk17 k24 hk24 (lp (fun k x => b_X8_findsBest_38 k17 k24 x1 x2 k x.1 x.2.1 x.2.2.1 x.2.2.2.1 x.2.2.2.2.1 x.2.2.2.2.2.1 x.2.2.2.2.2.2.1 x.2.2.2.2.2.2.2) n) (fun x3' t_s' t_comes' t_begins' t_back' t_waits' t_loads' t_move'  h S hl => ih x3' t_s' t_comes' t_begins' t_back' t_waits' t_loads' t_move'  h S hl) hf S hl
set_option maxRecDepth 100000 in
set_option maxHeartbeats 4000000 in
theorem k_X8_findsBest_24 (C : Cx p s m args meth c cX8_findsBest (some .boolean) 7 RX8 G A) (t_isKept : Int32) (t_work : Int32) (t_kind : Int32) (t_letters : Int32) (t_at : Int32) (t_fault : Int32) (t_back : Int32) (t_waits : Int32) (t_miles : Int32) (t_loads : Int32) (t_bestRound : Int32) (t_bestPlace : Int32) (t_bestAdds : Int32) (t_regret : Int32) (t_z : Int32) (t_s : Nat → Int32) (t_comes : Nat → Int32) (t_begins : Nat → Int32) (t_move : Nat → Int32) (x1 : Int32) (x2 : Int32) (k17 : Int32 × (Nat → Int32) × (Nat → Int32) × (Nat → Int32) × Int32 × Int32 × Int32 × (Nat → Int32) → Option (Int32 × (Nat → Int32) × (Nat → Int32) × (Nat → Int32) × Int32 × Int32 × Int32 × (Nat → Int32))) (hk17 : ∀ {H : Heap} {locs : List Loc} {ls : Array Slot} (x1' : Int32) (t_s' : Nat → Int32) (t_comes' : Nat → Int32) (t_begins' : Nat → Int32) (t_back' : Int32) (t_waits' : Int32) (t_loads' : Int32) (t_move' : Nat → Int32), k17 (x1', t_s', t_comes', t_begins', t_back', t_waits', t_loads', t_move') = some (r, z_t_s, z_t_comes, z_t_begins, z_t_back, z_t_waits, z_t_loads, z_t_move) → St G A s.heap H locs (w_X8_findsBest G a_t a_t_s a_t_image a_t_mind a_t_aside a_t_text a_t_read a_t_comes a_t_begins a_t_latest a_t_move a_t_sort a_t_items a_t_cell a_t_carried t_isKept t_work t_kind t_letters t_at t_fault t_back' t_waits' t_miles t_loads' t_bestRound t_bestPlace t_bestAdds t_regret t_z t_s' t_comes' t_begins' t_move') → lv_has ls 7 [(0, .ref a_t), (1, .int x1')] → W p l e rm_X8_findsBest s m args below meth c H locs 0 0 (QI G below args s A r (w_X8_findsBest G a_t a_t_s a_t_image a_t_mind a_t_aside a_t_text a_t_read a_t_comes a_t_begins a_t_latest a_t_move a_t_sort a_t_items a_t_cell a_t_carried t_isKept t_work t_kind t_letters t_at t_fault z_t_back z_t_waits t_miles z_t_loads t_bestRound t_bestPlace t_bestAdds t_regret t_z z_t_s z_t_comes z_t_begins z_t_move)) (F0 m 17 ls [])) (k24 : Int32 × (Nat → Int32) × (Nat → Int32) × (Nat → Int32) × Int32 × Int32 × Int32 × (Nat → Int32) → Option (Int32 × (Nat → Int32) × (Nat → Int32) × (Nat → Int32) × Int32 × Int32 × Int32 × (Nat → Int32))) (hk24 : ∀ {H : Heap} {locs : List Loc} {ls : Array Slot} (x2' : Int32) (t_s' : Nat → Int32) (t_comes' : Nat → Int32) (t_begins' : Nat → Int32) (t_back' : Int32) (t_waits' : Int32) (t_loads' : Int32) (t_move' : Nat → Int32), k24 (x2', t_s', t_comes', t_begins', t_back', t_waits', t_loads', t_move') = some (r, z_t_s, z_t_comes, z_t_begins, z_t_back, z_t_waits, z_t_loads, z_t_move) → St G A s.heap H locs (w_X8_findsBest G a_t a_t_s a_t_image a_t_mind a_t_aside a_t_text a_t_read a_t_comes a_t_begins a_t_latest a_t_move a_t_sort a_t_items a_t_cell a_t_carried t_isKept t_work t_kind t_letters t_at t_fault t_back' t_waits' t_miles t_loads' t_bestRound t_bestPlace t_bestAdds t_regret t_z t_s' t_comes' t_begins' t_move') → lv_has ls 7 [(0, .ref a_t), (1, .int x1), (2, .int x2')] → W p l e rm_X8_findsBest s m args below meth c H locs 0 0 (QI G below args s A r (w_X8_findsBest G a_t a_t_s a_t_image a_t_mind a_t_aside a_t_text a_t_read a_t_comes a_t_begins a_t_latest a_t_move a_t_sort a_t_items a_t_cell a_t_carried t_isKept t_work t_kind t_letters t_at t_fault z_t_back z_t_waits t_miles z_t_loads t_bestRound t_bestPlace t_bestAdds t_regret t_z z_t_s z_t_comes z_t_begins z_t_move)) (F0 m 24 ls [])) {H : Heap} {locs : List Loc} {ls : Array Slot} (hf : b_X8_findsBest_24 k17 x1 k24 x2 t_s t_comes t_begins t_back t_waits t_loads t_move = some (r, z_t_s, z_t_comes, z_t_begins, z_t_back, z_t_waits, z_t_loads, z_t_move)) (S : St G A s.heap H locs (w_X8_findsBest G a_t a_t_s a_t_image a_t_mind a_t_aside a_t_text a_t_read a_t_comes a_t_begins a_t_latest a_t_move a_t_sort a_t_items a_t_cell a_t_carried t_isKept t_work t_kind t_letters t_at t_fault t_back t_waits t_miles t_loads t_bestRound t_bestPlace t_bestAdds t_regret t_z t_s t_comes t_begins t_move)) (hl : lv_has ls 7 [(0, .ref a_t), (1, .int x1), (2, .int x2)]) : W p l e rm_X8_findsBest s m args below meth c H locs 0 0 (QI G below args s A r (w_X8_findsBest G a_t a_t_s a_t_image a_t_mind a_t_aside a_t_text a_t_read a_t_comes a_t_begins a_t_latest a_t_move a_t_sort a_t_items a_t_cell a_t_carried t_isKept t_work t_kind t_letters t_at t_fault z_t_back z_t_waits t_miles z_t_loads t_bestRound t_bestPlace t_bestAdds t_regret t_z z_t_s z_t_comes z_t_begins z_t_move)) (F0 m 24 ls []) := by
  unfold b_X8_findsBest_24 at hf
  have hx := C.1
  have hb := C.2.1
  have hown := C.2.2.2.2.1
  have hts := C.2.2.2.2.2.1
  have hN := C.2.2.2.2.2.2.2.2.2.2
  refine lv_iload_n (pc := 24) hx hb dX8_findsBest_24 rfl (lv_at hl 2 rfl) ?_
  refine lv_aload_n (pc := 25) hx hb dX8_findsBest_25 rfl (lv_at hl 0 rfl) ?_
  refine lv_iload_n (pc := 26) hx hb dX8_findsBest_26 rfl (lv_at hl 1 rfl) ?_
  refine lv_iconst (pc := 27) hx hb dX8_findsBest_27 ic_3 ?_
  obtain ⟨r1, hq1, hf⟩ := bd_e hf
  refine x_vI (pc := 28) (As := [.int x1, .int (3 : Int32)]) (rest := [.int x2]) (isC := [0, 1]) (ws' := (w_X8_findsBest G a_t a_t_s a_t_image a_t_mind a_t_aside a_t_text a_t_read a_t_comes a_t_begins a_t_latest a_t_move a_t_sort a_t_items a_t_cell a_t_carried t_isKept t_work t_kind t_letters t_at t_fault t_back t_waits t_miles t_loads t_bestRound t_bestPlace t_bestAdds t_regret t_z t_s t_comes t_begins t_move)) C S (c_X8_roundAt l G a_t a_t_s a_t_image a_t_mind a_t_aside a_t_text a_t_read a_t_comes a_t_begins a_t_latest a_t_move a_t_sort a_t_items a_t_cell a_t_carried t_isKept t_work t_kind t_letters t_at t_fault t_back t_waits t_miles t_loads t_bestRound t_bestPlace t_bestAdds t_regret t_z t_s x1 (3 : Int32) r1 hq1) (u_X8_findsBest_X8_roundAt_59 hts) (ci := 8) rfl 0 rfl rfl (by decide +kernel) [some 0, some 1, none, none, none] (by decide +kernel) rfl rfl rfl hl.1 rfl (Nat.le_of_ble_eq_true rfl) dX8_findsBest_28 (fun H locs S => ?_)
  refine lv_icmp_ge (tgt := 75) (pc := 31) hx hb dX8_findsBest_31 (by decide) (fun c2 => ?_) (fun c2 => ?_)
  · have hf := ifp c2 hf
    refine lv_iinc (pc := 75) (v := (x1 + (1 : Int32))) (lv' := [(1, .int (x1 + (1 : Int32))), (0, .ref a_t), (2, .int x2)]) hx hb dX8_findsBest_75 hl (k := 1) rfl (congrArg (fun z => x1 + z) ic_1) (by decide) rfl (fun ls hl => ?_)
    refine lv_goto (tgt := 17) (pc := 78) hx hb dX8_findsBest_78 (by decide) ?_
    exact hk17 ((x1 + (1 : Int32))) (t_s) (t_comes) (t_begins) (t_back) (t_waits) (t_loads) (t_move)  hf S (lv_sub hl [1, 0] rfl)
  · have hf := ifn c2 hf
    refine lv_iload_n (pc := 34) hx hb dX8_findsBest_34 rfl (lv_at hl 2 rfl) ?_
    refine lv_iconst (pc := 35) hx hb dX8_findsBest_35 ic_1 ?_
    refine lv_iadd (pc := 36) hx hb dX8_findsBest_36 ?_
    refine lv_istore_n (pc := 37) (lv' := [(3, .int (x2 + (1 : Int32))), (0, .ref a_t), (1, .int x1), (2, .int x2)]) hx hb dX8_findsBest_37 rfl hl (by decide) rfl (fun ls hl => ?_)
    exact h_X8_findsBest_38 C (t_isKept) (t_work) (t_kind) (t_letters) (t_at) (t_fault) (t_miles) (t_bestRound) (t_bestPlace) (t_bestAdds) (t_regret) (t_z) (x1) (x2) k17 hk17 k24 hk24 fu ((x2 + (1 : Int32))) (t_s) (t_comes) (t_begins) (t_back) (t_waits) (t_loads) (t_move) hf S (lv_sub hl [1, 2, 3, 0] rfl)
set_option maxRecDepth 100000 in
set_option maxHeartbeats 4000000 in
theorem h_X8_findsBest_24 (C : Cx p s m args meth c cX8_findsBest (some .boolean) 7 RX8 G A) (t_isKept : Int32) (t_work : Int32) (t_kind : Int32) (t_letters : Int32) (t_at : Int32) (t_fault : Int32) (t_miles : Int32) (t_bestRound : Int32) (t_bestPlace : Int32) (t_bestAdds : Int32) (t_regret : Int32) (t_z : Int32) (x1 : Int32) (k17 : Int32 × (Nat → Int32) × (Nat → Int32) × (Nat → Int32) × Int32 × Int32 × Int32 × (Nat → Int32) → Option (Int32 × (Nat → Int32) × (Nat → Int32) × (Nat → Int32) × Int32 × Int32 × Int32 × (Nat → Int32))) (hk17 : ∀ {H : Heap} {locs : List Loc} {ls : Array Slot} (x1' : Int32) (t_s' : Nat → Int32) (t_comes' : Nat → Int32) (t_begins' : Nat → Int32) (t_back' : Int32) (t_waits' : Int32) (t_loads' : Int32) (t_move' : Nat → Int32), k17 (x1', t_s', t_comes', t_begins', t_back', t_waits', t_loads', t_move') = some (r, z_t_s, z_t_comes, z_t_begins, z_t_back, z_t_waits, z_t_loads, z_t_move) → St G A s.heap H locs (w_X8_findsBest G a_t a_t_s a_t_image a_t_mind a_t_aside a_t_text a_t_read a_t_comes a_t_begins a_t_latest a_t_move a_t_sort a_t_items a_t_cell a_t_carried t_isKept t_work t_kind t_letters t_at t_fault t_back' t_waits' t_miles t_loads' t_bestRound t_bestPlace t_bestAdds t_regret t_z t_s' t_comes' t_begins' t_move') → lv_has ls 7 [(0, .ref a_t), (1, .int x1')] → W p l e rm_X8_findsBest s m args below meth c H locs 0 0 (QI G below args s A r (w_X8_findsBest G a_t a_t_s a_t_image a_t_mind a_t_aside a_t_text a_t_read a_t_comes a_t_begins a_t_latest a_t_move a_t_sort a_t_items a_t_cell a_t_carried t_isKept t_work t_kind t_letters t_at t_fault z_t_back z_t_waits t_miles z_t_loads t_bestRound t_bestPlace t_bestAdds t_regret t_z z_t_s z_t_comes z_t_begins z_t_move)) (F0 m 17 ls [])) : ∀ (n : Nat) (x2 : Int32) (t_s : Nat → Int32) (t_comes : Nat → Int32) (t_begins : Nat → Int32) (t_back : Int32) (t_waits : Int32) (t_loads : Int32) (t_move : Nat → Int32) {H : Heap} {locs : List Loc} {ls : Array Slot} (hf : lp (fun k x => b_X8_findsBest_24 k17 x1 k x.1 x.2.1 x.2.2.1 x.2.2.2.1 x.2.2.2.2.1 x.2.2.2.2.2.1 x.2.2.2.2.2.2.1 x.2.2.2.2.2.2.2) n (x2, t_s, t_comes, t_begins, t_back, t_waits, t_loads, t_move) = some (r, z_t_s, z_t_comes, z_t_begins, z_t_back, z_t_waits, z_t_loads, z_t_move)) (S : St G A s.heap H locs (w_X8_findsBest G a_t a_t_s a_t_image a_t_mind a_t_aside a_t_text a_t_read a_t_comes a_t_begins a_t_latest a_t_move a_t_sort a_t_items a_t_cell a_t_carried t_isKept t_work t_kind t_letters t_at t_fault t_back t_waits t_miles t_loads t_bestRound t_bestPlace t_bestAdds t_regret t_z t_s t_comes t_begins t_move)) (hl : lv_has ls 7 [(0, .ref a_t), (1, .int x1), (2, .int x2)]), W p l e rm_X8_findsBest s m args below meth c H locs 0 0 (QI G below args s A r (w_X8_findsBest G a_t a_t_s a_t_image a_t_mind a_t_aside a_t_text a_t_read a_t_comes a_t_begins a_t_latest a_t_move a_t_sort a_t_items a_t_cell a_t_carried t_isKept t_work t_kind t_letters t_at t_fault z_t_back z_t_waits t_miles z_t_loads t_bestRound t_bestPlace t_bestAdds t_regret t_z z_t_s z_t_comes z_t_begins z_t_move)) (F0 m 24 ls []) := by
  intro n
  induction n with
  | zero =>
    intro x2 t_s t_comes t_begins t_back t_waits t_loads t_move  H locs ls hf
    cases hf
  | succ n ih =>
    intro x2 t_s t_comes t_begins t_back t_waits t_loads t_move  H locs ls hf S hl
    have hf : b_X8_findsBest_24 k17 x1 (lp (fun k x => b_X8_findsBest_24 k17 x1 k x.1 x.2.1 x.2.2.1 x.2.2.2.1 x.2.2.2.2.1 x.2.2.2.2.2.1 x.2.2.2.2.2.2.1 x.2.2.2.2.2.2.2) n) x2 t_s t_comes t_begins t_back t_waits t_loads t_move = some (r, z_t_s, z_t_comes, z_t_begins, z_t_back, z_t_waits, z_t_loads, z_t_move) := hf
    exact k_X8_findsBest_24 C t_isKept t_work t_kind t_letters t_at t_fault t_back t_waits t_miles t_loads t_bestRound t_bestPlace t_bestAdds t_regret t_z t_s t_comes t_begins t_move x1 x2  k17 hk17 (lp (fun k x => b_X8_findsBest_24 k17 x1 k x.1 x.2.1 x.2.2.1 x.2.2.2.1 x.2.2.2.2.1 x.2.2.2.2.2.1 x.2.2.2.2.2.2.1 x.2.2.2.2.2.2.2) n) (fun x2' t_s' t_comes' t_begins' t_back' t_waits' t_loads' t_move'  h S hl => ih x2' t_s' t_comes' t_begins' t_back' t_waits' t_loads' t_move'  h S hl) hf S hl
set_option maxRecDepth 100000 in
set_option maxHeartbeats 4000000 in
theorem k_X8_findsBest_17 (C : Cx p s m args meth c cX8_findsBest (some .boolean) 7 RX8 G A) (t_isKept : Int32) (t_work : Int32) (t_kind : Int32) (t_letters : Int32) (t_at : Int32) (t_fault : Int32) (t_back : Int32) (t_waits : Int32) (t_miles : Int32) (t_loads : Int32) (t_bestRound : Int32) (t_bestPlace : Int32) (t_bestAdds : Int32) (t_regret : Int32) (t_z : Int32) (t_s : Nat → Int32) (t_comes : Nat → Int32) (t_begins : Nat → Int32) (t_move : Nat → Int32) (x1 : Int32) (k17 : Int32 × (Nat → Int32) × (Nat → Int32) × (Nat → Int32) × Int32 × Int32 × Int32 × (Nat → Int32) → Option (Int32 × (Nat → Int32) × (Nat → Int32) × (Nat → Int32) × Int32 × Int32 × Int32 × (Nat → Int32))) (hk17 : ∀ {H : Heap} {locs : List Loc} {ls : Array Slot} (x1' : Int32) (t_s' : Nat → Int32) (t_comes' : Nat → Int32) (t_begins' : Nat → Int32) (t_back' : Int32) (t_waits' : Int32) (t_loads' : Int32) (t_move' : Nat → Int32), k17 (x1', t_s', t_comes', t_begins', t_back', t_waits', t_loads', t_move') = some (r, z_t_s, z_t_comes, z_t_begins, z_t_back, z_t_waits, z_t_loads, z_t_move) → St G A s.heap H locs (w_X8_findsBest G a_t a_t_s a_t_image a_t_mind a_t_aside a_t_text a_t_read a_t_comes a_t_begins a_t_latest a_t_move a_t_sort a_t_items a_t_cell a_t_carried t_isKept t_work t_kind t_letters t_at t_fault t_back' t_waits' t_miles t_loads' t_bestRound t_bestPlace t_bestAdds t_regret t_z t_s' t_comes' t_begins' t_move') → lv_has ls 7 [(0, .ref a_t), (1, .int x1')] → W p l e rm_X8_findsBest s m args below meth c H locs 0 0 (QI G below args s A r (w_X8_findsBest G a_t a_t_s a_t_image a_t_mind a_t_aside a_t_text a_t_read a_t_comes a_t_begins a_t_latest a_t_move a_t_sort a_t_items a_t_cell a_t_carried t_isKept t_work t_kind t_letters t_at t_fault z_t_back z_t_waits t_miles z_t_loads t_bestRound t_bestPlace t_bestAdds t_regret t_z z_t_s z_t_comes z_t_begins z_t_move)) (F0 m 17 ls [])) {H : Heap} {locs : List Loc} {ls : Array Slot} (hf : b_X8_findsBest_17 k17 x1 t_s t_comes t_begins t_back t_waits t_loads t_move = some (r, z_t_s, z_t_comes, z_t_begins, z_t_back, z_t_waits, z_t_loads, z_t_move)) (S : St G A s.heap H locs (w_X8_findsBest G a_t a_t_s a_t_image a_t_mind a_t_aside a_t_text a_t_read a_t_comes a_t_begins a_t_latest a_t_move a_t_sort a_t_items a_t_cell a_t_carried t_isKept t_work t_kind t_letters t_at t_fault t_back t_waits t_miles t_loads t_bestRound t_bestPlace t_bestAdds t_regret t_z t_s t_comes t_begins t_move)) (hl : lv_has ls 7 [(0, .ref a_t), (1, .int x1)]) : W p l e rm_X8_findsBest s m args below meth c H locs 0 0 (QI G below args s A r (w_X8_findsBest G a_t a_t_s a_t_image a_t_mind a_t_aside a_t_text a_t_read a_t_comes a_t_begins a_t_latest a_t_move a_t_sort a_t_items a_t_cell a_t_carried t_isKept t_work t_kind t_letters t_at t_fault z_t_back z_t_waits t_miles z_t_loads t_bestRound t_bestPlace t_bestAdds t_regret t_z z_t_s z_t_comes z_t_begins z_t_move)) (F0 m 17 ls []) := by
  unfold b_X8_findsBest_17 at hf
  have hx := C.1
  have hb := C.2.1
  have hown := C.2.2.2.2.1
  have hts := C.2.2.2.2.2.1
  have hN := C.2.2.2.2.2.2.2.2.2.2
  refine lv_iload_n (pc := 17) hx hb dX8_findsBest_17 rfl (lv_at hl 1 rfl) ?_
  refine lv_iconst (pc := 18) hx hb dX8_findsBest_18 ic_4 ?_
  refine lv_icmp_ge (tgt := 81) (pc := 19) hx hb dX8_findsBest_19 (by decide) (fun c1 => ?_) (fun c1 => ?_)
  · have hf := ifp c1 hf
    refine lv_iconst (pc := 81) hx hb dX8_findsBest_81 ic_0 ?_
    refine lv_istore_n (pc := 82) (lv' := [(1, .int (0 : Int32)), (0, .ref a_t)]) hx hb dX8_findsBest_82 rfl hl (by decide) rfl (fun ls hl => ?_)
    exact h_X8_findsBest_83 C (t_isKept) (t_work) (t_kind) (t_letters) (t_at) (t_fault) (t_miles) (t_bestRound) (t_bestPlace) (t_bestAdds) (t_regret) (t_z) fu ((0 : Int32)) (t_s) (t_comes) (t_begins) (t_back) (t_waits) (t_loads) (t_move) hf S (lv_sub hl [1, 0] rfl)
  · have hf := ifn c1 hf
    refine lv_iconst (pc := 22) hx hb dX8_findsBest_22 ic_0 ?_
    refine lv_istore_n (pc := 23) (lv' := [(2, .int (0 : Int32)), (0, .ref a_t), (1, .int x1)]) hx hb dX8_findsBest_23 rfl hl (by decide) rfl (fun ls hl => ?_)
    exact h_X8_findsBest_24 C (t_isKept) (t_work) (t_kind) (t_letters) (t_at) (t_fault) (t_miles) (t_bestRound) (t_bestPlace) (t_bestAdds) (t_regret) (t_z) (x1) k17 hk17 fu ((0 : Int32)) (t_s) (t_comes) (t_begins) (t_back) (t_waits) (t_loads) (t_move) hf S (lv_sub hl [1, 2, 0] rfl)
set_option maxRecDepth 100000 in
set_option maxHeartbeats 4000000 in
theorem h_X8_findsBest_17 (C : Cx p s m args meth c cX8_findsBest (some .boolean) 7 RX8 G A) (t_isKept : Int32) (t_work : Int32) (t_kind : Int32) (t_letters : Int32) (t_at : Int32) (t_fault : Int32) (t_miles : Int32) (t_bestRound : Int32) (t_bestPlace : Int32) (t_bestAdds : Int32) (t_regret : Int32) (t_z : Int32) : ∀ (n : Nat) (x1 : Int32) (t_s : Nat → Int32) (t_comes : Nat → Int32) (t_begins : Nat → Int32) (t_back : Int32) (t_waits : Int32) (t_loads : Int32) (t_move : Nat → Int32) {H : Heap} {locs : List Loc} {ls : Array Slot} (hf : lp (fun k x => b_X8_findsBest_17 k x.1 x.2.1 x.2.2.1 x.2.2.2.1 x.2.2.2.2.1 x.2.2.2.2.2.1 x.2.2.2.2.2.2.1 x.2.2.2.2.2.2.2) n (x1, t_s, t_comes, t_begins, t_back, t_waits, t_loads, t_move) = some (r, z_t_s, z_t_comes, z_t_begins, z_t_back, z_t_waits, z_t_loads, z_t_move)) (S : St G A s.heap H locs (w_X8_findsBest G a_t a_t_s a_t_image a_t_mind a_t_aside a_t_text a_t_read a_t_comes a_t_begins a_t_latest a_t_move a_t_sort a_t_items a_t_cell a_t_carried t_isKept t_work t_kind t_letters t_at t_fault t_back t_waits t_miles t_loads t_bestRound t_bestPlace t_bestAdds t_regret t_z t_s t_comes t_begins t_move)) (hl : lv_has ls 7 [(0, .ref a_t), (1, .int x1)]), W p l e rm_X8_findsBest s m args below meth c H locs 0 0 (QI G below args s A r (w_X8_findsBest G a_t a_t_s a_t_image a_t_mind a_t_aside a_t_text a_t_read a_t_comes a_t_begins a_t_latest a_t_move a_t_sort a_t_items a_t_cell a_t_carried t_isKept t_work t_kind t_letters t_at t_fault z_t_back z_t_waits t_miles z_t_loads t_bestRound t_bestPlace t_bestAdds t_regret t_z z_t_s z_t_comes z_t_begins z_t_move)) (F0 m 17 ls []) := by
  intro n
  induction n with
  | zero =>
    intro x1 t_s t_comes t_begins t_back t_waits t_loads t_move  H locs ls hf
    cases hf
  | succ n ih =>
    intro x1 t_s t_comes t_begins t_back t_waits t_loads t_move  H locs ls hf S hl
    have hf : b_X8_findsBest_17 (lp (fun k x => b_X8_findsBest_17 k x.1 x.2.1 x.2.2.1 x.2.2.2.1 x.2.2.2.2.1 x.2.2.2.2.2.1 x.2.2.2.2.2.2.1 x.2.2.2.2.2.2.2) n) x1 t_s t_comes t_begins t_back t_waits t_loads t_move = some (r, z_t_s, z_t_comes, z_t_begins, z_t_back, z_t_waits, z_t_loads, z_t_move) := hf
    exact k_X8_findsBest_17 C t_isKept t_work t_kind t_letters t_at t_fault t_back t_waits t_miles t_loads t_bestRound t_bestPlace t_bestAdds t_regret t_z t_s t_comes t_begins t_move x1  (lp (fun k x => b_X8_findsBest_17 k x.1 x.2.1 x.2.2.1 x.2.2.2.1 x.2.2.2.2.1 x.2.2.2.2.2.1 x.2.2.2.2.2.2.1 x.2.2.2.2.2.2.2) n) (fun x1' t_s' t_comes' t_begins' t_back' t_waits' t_loads' t_move'  h S hl => ih x1' t_s' t_comes' t_begins' t_back' t_waits' t_loads' t_move'  h S hl) hf S hl
set_option maxRecDepth 100000 in
set_option maxHeartbeats 4000000 in
theorem c_X8_findsBest (l : Launch) (G : GE) (a_t a_t_s a_t_image a_t_mind a_t_aside a_t_text a_t_read a_t_comes a_t_begins a_t_latest a_t_move a_t_sort a_t_items a_t_cell a_t_carried : Nat) (t_isKept : Int32) (t_work : Int32) (t_kind : Int32) (t_letters : Int32) (t_at : Int32) (t_fault : Int32) (t_back : Int32) (t_waits : Int32) (t_miles : Int32) (t_loads : Int32) (t_bestRound : Int32) (t_bestPlace : Int32) (t_bestAdds : Int32) (t_regret : Int32) (t_z : Int32) (t_s : Nat → Int32) (t_comes : Nat → Int32) (t_begins : Nat → Int32) (t_move : Nat → Int32) (r : Int32) (z_t_s : Nat → Int32) (z_t_comes : Nat → Int32) (z_t_begins : Nat → Int32) (z_t_back : Int32) (z_t_waits : Int32) (z_t_loads : Int32) (z_t_move : Nat → Int32) (hf : f_X8_findsBest t_s t_comes t_begins t_back t_waits t_loads t_move = some (r, z_t_s, z_t_comes, z_t_begins, z_t_back, z_t_waits, z_t_loads, z_t_move)) : CI l G yX8_findsBest kw_X8_findsBest rm_X8_findsBest [.ref a_t] (w_X8_findsBest G a_t a_t_s a_t_image a_t_mind a_t_aside a_t_text a_t_read a_t_comes a_t_begins a_t_latest a_t_move a_t_sort a_t_items a_t_cell a_t_carried t_isKept t_work t_kind t_letters t_at t_fault t_back t_waits t_miles t_loads t_bestRound t_bestPlace t_bestAdds t_regret t_z t_s t_comes t_begins t_move) r (w_X8_findsBest G a_t a_t_s a_t_image a_t_mind a_t_aside a_t_text a_t_read a_t_comes a_t_begins a_t_latest a_t_move a_t_sort a_t_items a_t_cell a_t_carried t_isKept t_work t_kind t_letters t_at t_fault z_t_back z_t_waits t_miles z_t_loads t_bestRound t_bestPlace t_bestAdds t_regret t_z z_t_s z_t_comes z_t_begins z_t_move) := by
  refine en_I (cc := cX8_findsBest) (maxL := 7) (ret := (some .boolean)) (by decide +kernel) (Nat.le_of_ble_eq_true rfl) ?_
  intro p e s m args below meth c A ls C S hl
  have hl : lv_has ls 7 [(0, .ref a_t)] := hl
  have C : Cx p s m args meth c cX8_findsBest (some .boolean) 7 RX8 G A := C
  unfold f_X8_findsBest at hf
  have hx := C.1
  have hb := C.2.1
  have hown := C.2.2.2.2.1
  have hts := C.2.2.2.2.2.1
  have hN := C.2.2.2.2.2.2.2.2.2.2
  refine lv_aload_n (pc := 0) hx hb dX8_findsBest_0 rfl (lv_at hl 0 rfl) ?_
  refine x_get (pc := 1) (ci := 8) (T := TX8) (v := .ref a_t_move) C S 0 rfl rfl inlX8 23 (by decide) rfl qf_8_39 rfl dX8_findsBest_1 ?_
  refine lv_iconst (pc := 4) hx hb dX8_findsBest_4 ic_0 ?_
  refine lv_bipush (pc := 5) hx hb dX8_findsBest_5 bc_m5 ?_
  refine x_iast (pc := 7) (ws' := (w_X8_findsBest G a_t a_t_s a_t_image a_t_mind a_t_aside a_t_text a_t_read a_t_comes a_t_begins a_t_latest a_t_move a_t_sort a_t_items a_t_cell a_t_carried t_isKept t_work t_kind t_letters t_at t_fault t_back t_waits t_miles t_loads t_bestRound t_bestPlace t_bestAdds t_regret t_z t_s t_comes t_begins (upd t_move (0 : Int32).toNatClampNeg (-5 : Int32)))) C S 4 rfl (vp_in_iff.mpr (by decide)) rfl dX8_findsBest_7 (fun H locs S => ?_)
  refine lv_aload_n (pc := 8) hx hb dX8_findsBest_8 rfl (lv_at hl 0 rfl) ?_
  refine x_get (pc := 9) (ci := 8) (T := TX8) (v := .ref a_t_move) C S 0 rfl rfl inlX8 23 (by decide) rfl qf_8_39 rfl dX8_findsBest_9 ?_
  refine lv_iconst (pc := 12) hx hb dX8_findsBest_12 ic_1 ?_
  refine lv_iconst (pc := 13) hx hb dX8_findsBest_13 ic_0 ?_
  refine x_iast (pc := 14) (ws' := (w_X8_findsBest G a_t a_t_s a_t_image a_t_mind a_t_aside a_t_text a_t_read a_t_comes a_t_begins a_t_latest a_t_move a_t_sort a_t_items a_t_cell a_t_carried t_isKept t_work t_kind t_letters t_at t_fault t_back t_waits t_miles t_loads t_bestRound t_bestPlace t_bestAdds t_regret t_z t_s t_comes t_begins (upd (upd t_move (0 : Int32).toNatClampNeg (-5 : Int32)) (1 : Int32).toNatClampNeg (0 : Int32)))) C S 4 rfl (vp_in_iff.mpr (by decide)) rfl dX8_findsBest_14 (fun H locs S => ?_)
  refine lv_iconst (pc := 15) hx hb dX8_findsBest_15 ic_0 ?_
  refine lv_istore_n (pc := 16) (lv' := [(1, .int (0 : Int32)), (0, .ref a_t)]) hx hb dX8_findsBest_16 rfl hl (by decide) rfl (fun ls hl => ?_)
  exact h_X8_findsBest_17 C (t_isKept) (t_work) (t_kind) (t_letters) (t_at) (t_fault) (t_miles) (t_bestRound) (t_bestPlace) (t_bestAdds) (t_regret) (t_z) fu ((0 : Int32)) (t_s) (t_comes) (t_begins) (t_back) (t_waits) (t_loads) ((upd (upd t_move (0 : Int32).toNatClampNeg (-5 : Int32)) (1 : Int32).toNatClampNeg (0 : Int32))) hf S (lv_sub hl [1, 0] rfl)
end
