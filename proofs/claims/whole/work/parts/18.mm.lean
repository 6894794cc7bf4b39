abbrev rm_X8_take : Room := { frames := 5, cells := 0, slots := 0, locals := 120 }
abbrev kw_X8_take : Cond := .code yX8_take cX8_take 5 (some .int)
abbrev w_X8_take (G : GE) (a_t a_t_s a_t_image a_t_mind a_t_aside a_t_text a_t_read a_t_comes a_t_begins a_t_latest a_t_move a_t_sort a_t_items a_t_cell a_t_carried : Nat) (t_isKept : Int32) (t_work : Int32) (t_kind : Int32) (t_letters : Int32) (t_at : Int32) (t_fault : Int32) (t_back : Int32) (t_waits : Int32) (t_miles : Int32) (t_loads : Int32) (t_bestRound : Int32) (t_bestPlace : Int32) (t_bestAdds : Int32) (t_regret : Int32) (t_z : Int32) (t_s : Nat → Int32) (t_comes : Nat → Int32) (t_begins : Nat → Int32) : va_W := [(a_t, ob 8 [.ref a_t_s, .ref a_t_image, .ref a_t_mind, .ref a_t_aside, .int t_isKept, .int t_work, .int t_kind, .ref a_t_text, .ref a_t_read, .int t_letters, .int t_at, .int t_fault, .ref a_t_comes, .ref a_t_begins, .ref a_t_latest, .int t_back, .int t_waits, .int t_miles, .int t_loads, .int t_bestRound, .int t_bestPlace, .int t_bestAdds, .int t_regret, .ref a_t_move, .ref a_t_sort, .ref a_t_items, .ref a_t_cell, .ref a_t_carried, .int t_z]), (a_t_s, aI G 258 t_s), (a_t_comes, aI G 16 t_comes), (a_t_begins, aI G 16 t_begins)]
theorem u_X8_take_X8_isStop_151 {s : State} {args : Array Value} (hts : ∀ w ∈ WU, w.before args s = true) : CallW rm_X8_take s args RX8 RX8 151 yX8_isStop cX8_isStop 2 (some .boolean) (kw_X8_isStop :: WU) rm_X8_isStop 0 0 1 := cwV 1 hts (gV qm_8_151 qi_X8_isStop ql_X8_isStop qn_8 qc_X8_isStop) rfl rfl rfl (by decide +kernel) ⟨Nat.le_of_ble_eq_true rfl, Nat.le_of_ble_eq_true rfl⟩
theorem u_X8_take_X8_roundOf_157 {s : State} {args : Array Value} (hts : ∀ w ∈ WU, w.before args s = true) : CallW rm_X8_take s args RX8 RX8 157 yX8_roundOf cX8_roundOf 3 (some .int) (kw_X8_roundOf :: WU) rm_X8_roundOf 0 0 1 := cwV 1 hts (gV qm_8_157 qi_X8_roundOf ql_X8_roundOf qn_8 qc_X8_roundOf) rfl rfl rfl (by decide +kernel) ⟨Nat.le_of_ble_eq_true rfl, Nat.le_of_ble_eq_true rfl⟩
theorem u_X8_take_X8_stopAt_78 {s : State} {args : Array Value} (hts : ∀ w ∈ WU, w.before args s = true) : CallW rm_X8_take s args RX8 RX8 78 yX8_stopAt cX8_stopAt 3 (some .int) (kw_X8_stopAt :: WU) rm_X8_stopAt 0 0 2 := cwV 2 hts (gV qm_8_78 qi_X8_stopAt ql_X8_stopAt qn_8 qc_X8_stopAt) rfl rfl rfl (by decide +kernel) ⟨Nat.le_of_ble_eq_true rfl, Nat.le_of_ble_eq_true rfl⟩
theorem u_X8_take_X8_cost_177 {s : State} {args : Array Value} (hts : ∀ w ∈ WU, w.before args s = true) : CallW rm_X8_take s args RX8 RX8 177 yX8_cost cX8_cost 3 (some .int) (kw_X8_cost :: WU) rm_X8_cost 0 0 0 := cwV 0 hts (gV qm_8_177 qi_X8_cost ql_X8_cost qn_8 qc_X8_cost) rfl rfl rfl (by decide +kernel) ⟨Nat.le_of_ble_eq_true rfl, Nat.le_of_ble_eq_true rfl⟩
theorem u_X8_take_X8_placeIn_66 {s : State} {args : Array Value} (hts : ∀ w ∈ WU, w.before args s = true) : CallW rm_X8_take s args RX8 RX8 66 yX8_placeIn cX8_placeIn 4 (some .int) (kw_X8_placeIn :: WU) rm_X8_placeIn 0 0 2 := cwV 2 hts (gV qm_8_66 qi_X8_placeIn ql_X8_placeIn qn_8 qc_X8_placeIn) rfl rfl rfl (by decide +kernel) ⟨Nat.le_of_ble_eq_true rfl, Nat.le_of_ble_eq_true rfl⟩
theorem u_X8_take_X8_removes_170 {s : State} {args : Array Value} (hts : ∀ w ∈ WU, w.before args s = true) : CallW rm_X8_take s args RX8 RX8 170 yX8_removes cX8_removes 5 none (kw_X8_removes :: WU) rm_X8_removes 0 0 2 := cwV 2 hts (gV qm_8_170 qi_X8_removes ql_X8_removes qn_8 qc_X8_removes) rfl rfl rfl (by decide +kernel) ⟨Nat.le_of_ble_eq_true rfl, Nat.le_of_ble_eq_true rfl⟩
theorem u_X8_take_X8_holds_104 {s : State} {args : Array Value} (hts : ∀ w ∈ WU, w.before args s = true) : CallW rm_X8_take s args RX8 RX8 104 yX8_holds cX8_holds 2 (some .boolean) (kw_X8_holds :: WU) rm_X8_holds 0 0 1 := cwV 1 hts (gV qm_8_104 qi_X8_holds ql_X8_holds qn_8 qc_X8_holds) rfl rfl rfl (by decide +kernel) ⟨Nat.le_of_ble_eq_true rfl, Nat.le_of_ble_eq_true rfl⟩
theorem u_X8_take_X8_inserts_165 {s : State} {args : Array Value} (hts : ∀ w ∈ WU, w.before args s = true) : CallW rm_X8_take s args RX8 RX8 165 yX8_inserts cX8_inserts 6 none (kw_X8_inserts :: WU) rm_X8_inserts 0 0 3 := cwV 3 hts (gV qm_8_165 qi_X8_inserts ql_X8_inserts qn_8 qc_X8_inserts) rfl rfl rfl (by decide +kernel) ⟨Nat.le_of_ble_eq_true rfl, Nat.le_of_ble_eq_true rfl⟩
section
variable {p : Program} {l : Launch} {e : Env} {s : State} {m : MethodId} {args : Array Value} {below : List Frame} {meth : Method} {c : Code} {A : Nat → Prop} {G : GE} {a_t a_t_s a_t_image a_t_mind a_t_aside a_t_text a_t_read a_t_comes a_t_begins a_t_latest a_t_move a_t_sort a_t_items a_t_cell a_t_carried : Nat} {r : Int32} {z_t_s : Nat → Int32} {z_t_comes : Nat → Int32} {z_t_begins : Nat → Int32} {z_t_back : Int32} {z_t_waits : Int32} {z_t_loads : Int32}
set_option maxRecDepth 100000 in
set_option maxHeartbeats 4000000 in
theorem c_X8_take (l : Launch) (G : GE) (a_t a_t_s a_t_image a_t_mind a_t_aside a_t_text a_t_read a_t_comes a_t_begins a_t_latest a_t_move a_t_sort a_t_items a_t_cell a_t_carried : Nat) (t_isKept : Int32) (t_work : Int32) (t_kind : Int32) (t_letters : Int32) (t_at : Int32) (t_fault : Int32) (t_back : Int32) (t_waits : Int32) (t_miles : Int32) (t_loads : Int32) (t_bestRound : Int32) (t_bestPlace : Int32) (t_bestAdds : Int32) (t_regret : Int32) (t_z : Int32) (t_s : Nat → Int32) (t_comes : Nat → Int32) (t_begins : Nat → Int32) (x1 : Int32) (r : Int32) (z_t_s : Nat → Int32) (z_t_comes : Nat → Int32) (z_t_begins : Nat → Int32) (z_t_back : Int32) (z_t_waits : Int32) (z_t_loads : Int32) (hf : f_X8_take t_s t_comes t_begins t_back t_waits t_loads x1 = some (r, z_t_s, z_t_comes, z_t_begins, z_t_back, z_t_waits, z_t_loads)) : CI l G yX8_take kw_X8_take rm_X8_take [.ref a_t, .int x1] (w_X8_take G a_t a_t_s a_t_image a_t_mind a_t_aside a_t_text a_t_read a_t_comes a_t_begins a_t_latest a_t_move a_t_sort a_t_items a_t_cell a_t_carried t_isKept t_work t_kind t_letters t_at t_fault t_back t_waits t_miles t_loads t_bestRound t_bestPlace t_bestAdds t_regret t_z t_s t_comes t_begins) r (w_X8_take G a_t a_t_s a_t_image a_t_mind a_t_aside a_t_text a_t_read a_t_comes a_t_begins a_t_latest a_t_move a_t_sort a_t_items a_t_cell a_t_carried t_isKept t_work t_kind t_letters t_at t_fault z_t_back z_t_waits t_miles z_t_loads t_bestRound t_bestPlace t_bestAdds t_regret t_z z_t_s z_t_comes z_t_begins) := by
  refine en_I (cc := cX8_take) (maxL := 5) (ret := (some .int)) (by decide +kernel) (Nat.le_of_ble_eq_true rfl) ?_
  intro p e s m args below meth c A ls C S hl
  have hl : lv_has ls 5 [(0, .ref a_t), (1, .int x1)] := hl
  have C : Cx p s m args meth c cX8_take (some .int) 5 RX8 G A := C
  unfold f_X8_take at hf
  have hx := C.1
  have hb := C.2.1
  have hown := C.2.2.2.2.1
  have hts := C.2.2.2.2.2.1
  have hN := C.2.2.2.2.2.2.2.2.2.2
  refine lv_aload_n (pc := 0) hx hb dX8_take_0 rfl (lv_at hl 0 rfl) ?_
  refine lv_iload_n (pc := 1) hx hb dX8_take_1 rfl (lv_at hl 1 rfl) ?_
  obtain ⟨r1, hq1, hf⟩ := bd_e hf
  refine x_vI (pc := 2) (As := [.int x1]) (rest := []) (isC := [0, 1]) (ws' := (w_X8_take G a_t a_t_s a_t_image a_t_mind a_t_aside a_t_text a_t_read a_t_comes a_t_begins a_t_latest a_t_move a_t_sort a_t_items a_t_cell a_t_carried t_isKept t_work t_kind t_letters t_at t_fault t_back t_waits t_miles t_loads t_bestRound t_bestPlace t_bestAdds t_regret t_z t_s t_comes t_begins)) C S (c_X8_isStop l G a_t a_t_s a_t_image a_t_mind a_t_aside a_t_text a_t_read a_t_comes a_t_begins a_t_latest a_t_move a_t_sort a_t_items a_t_cell a_t_carried t_isKept t_work t_kind t_letters t_at t_fault t_back t_waits t_miles t_loads t_bestRound t_bestPlace t_bestAdds t_regret t_z t_s x1 r1 hq1) (u_X8_take_X8_isStop_151 hts) (ci := 8) rfl 0 rfl rfl (by decide +kernel) [some 0, some 1, none, none] (by decide +kernel) rfl rfl rfl hl.1 rfl (Nat.le_of_ble_eq_true rfl) dX8_take_2 (fun H locs S => ?_)
  refine lv_if_ne (tgt := 10) (pc := 5) hx hb dX8_take_5 (by decide) (fun c2 => ?_) (fun c2 => ?_)
  · have hf := ifn c2 hf
    refine lv_aload_n (pc := 10) hx hb dX8_take_10 rfl (lv_at hl 0 rfl) ?_
    refine lv_iload_n (pc := 11) hx hb dX8_take_11 rfl (lv_at hl 1 rfl) ?_
    obtain ⟨r3, hq3, hf⟩ := bd_e hf
    refine x_vI (pc := 12) (As := [.int x1]) (rest := []) (isC := [0, 1]) (ws' := (w_X8_take G a_t a_t_s a_t_image a_t_mind a_t_aside a_t_text a_t_read a_t_comes a_t_begins a_t_latest a_t_move a_t_sort a_t_items a_t_cell a_t_carried t_isKept t_work t_kind t_letters t_at t_fault t_back t_waits t_miles t_loads t_bestRound t_bestPlace t_bestAdds t_regret t_z t_s t_comes t_begins)) C S (c_X8_roundOf l G a_t a_t_s a_t_image a_t_mind a_t_aside a_t_text a_t_read a_t_comes a_t_begins a_t_latest a_t_move a_t_sort a_t_items a_t_cell a_t_carried t_isKept t_work t_kind t_letters t_at t_fault t_back t_waits t_miles t_loads t_bestRound t_bestPlace t_bestAdds t_regret t_z t_s x1 r3 hq3) (u_X8_take_X8_roundOf_157 hts) (ci := 8) rfl 0 rfl rfl (by decide +kernel) [some 0, some 1, none, none] (by decide +kernel) rfl rfl rfl hl.1 rfl (Nat.le_of_ble_eq_true rfl) dX8_take_12 (fun H locs S => ?_)
    refine lv_istore_n (pc := 15) (lv' := [(2, .int r3), (0, .ref a_t), (1, .int x1)]) hx hb dX8_take_15 rfl hl (by decide) rfl (fun ls hl => ?_)
    refine lv_iload_n (pc := 16) hx hb dX8_take_16 rfl (lv_at hl 0 rfl) ?_
    refine lv_if_lt (tgt := 31) (pc := 17) hx hb dX8_take_17 (by decide) (fun c4 => ?_) (fun c4 => ?_)
    · have hf := ifp c4 hf
      refine lv_bipush (pc := 31) hx hb dX8_take_31 bc_m3 ?_
      cases hf
      exact x_iret (pc := 33) C S dX8_take_33
    · have hf := ifn c4 hf
      refine lv_aload_n (pc := 20) hx hb dX8_take_20 rfl (lv_at hl 1 rfl) ?_
      refine lv_iload_n (pc := 21) hx hb dX8_take_21 rfl (lv_at hl 2 rfl) ?_
      refine lv_bipush (pc := 22) hx hb dX8_take_22 bc_6 ?_
      obtain ⟨r5, hq5, hf⟩ := bd_e hf
      refine x_vI (pc := 24) (As := [.int x1, .int (6 : Int32)]) (rest := []) (isC := [0, 1]) (ws' := (w_X8_take G a_t a_t_s a_t_image a_t_mind a_t_aside a_t_text a_t_read a_t_comes a_t_begins a_t_latest a_t_move a_t_sort a_t_items a_t_cell a_t_carried t_isKept t_work t_kind t_letters t_at t_fault t_back t_waits t_miles t_loads t_bestRound t_bestPlace t_bestAdds t_regret t_z t_s t_comes t_begins)) C S (c_X8_stopAt l G a_t a_t_s a_t_image a_t_mind a_t_aside a_t_text a_t_read a_t_comes a_t_begins a_t_latest a_t_move a_t_sort a_t_items a_t_cell a_t_carried t_isKept t_work t_kind t_letters t_at t_fault t_back t_waits t_miles t_loads t_bestRound t_bestPlace t_bestAdds t_regret t_z t_s x1 (6 : Int32) r5 hq5) (u_X8_take_X8_stopAt_78 hts) (ci := 8) rfl 0 rfl rfl (by decide +kernel) [some 0, some 1, none, none] (by decide +kernel) rfl rfl rfl hl.1 rfl (Nat.le_of_ble_eq_true rfl) dX8_take_24 (fun H locs S => ?_)
      refine lv_iconst (pc := 27) hx hb dX8_take_27 ic_1 ?_
      refine lv_icmp_ne (tgt := 34) (pc := 28) hx hb dX8_take_28 (by decide) (fun c6 => ?_) (fun c6 => ?_)
      · have hf := ifn c6 hf
        refine lv_aload_n (pc := 34) hx hb dX8_take_34 rfl (lv_at hl 1 rfl) ?_
        obtain ⟨r7, hq7, hf⟩ := bd_e hf
        refine x_vI (pc := 35) (As := []) (rest := []) (isC := [0, 1]) (ws' := (w_X8_take G a_t a_t_s a_t_image a_t_mind a_t_aside a_t_text a_t_read a_t_comes a_t_begins a_t_latest a_t_move a_t_sort a_t_items a_t_cell a_t_carried t_isKept t_work t_kind t_letters t_at t_fault t_back t_waits t_miles t_loads t_bestRound t_bestPlace t_bestAdds t_regret t_z t_s t_comes t_begins)) C S (c_X8_cost l G a_t a_t_s a_t_image a_t_mind a_t_aside a_t_text a_t_read a_t_comes a_t_begins a_t_latest a_t_move a_t_sort a_t_items a_t_cell a_t_carried t_isKept t_work t_kind t_letters t_at t_fault t_back t_waits t_miles t_loads t_bestRound t_bestPlace t_bestAdds t_regret t_z t_s r7 hq7) (u_X8_take_X8_cost_177 hts) (ci := 8) rfl 0 rfl rfl (by decide +kernel) [some 0, some 1, none, none] (by decide +kernel) rfl rfl rfl hl.1 rfl (Nat.le_of_ble_eq_true rfl) dX8_take_35 (fun H locs S => ?_)
        refine lv_istore_n (pc := 38) (lv' := [(3, .int r7), (2, .int r3), (0, .ref a_t), (1, .int x1)]) hx hb dX8_take_38 rfl hl (by decide) rfl (fun ls hl => ?_)
        refine lv_aload_n (pc := 39) hx hb dX8_take_39 rfl (lv_at hl 2 rfl) ?_
        refine lv_iload_n (pc := 40) hx hb dX8_take_40 rfl (lv_at hl 1 rfl) ?_
        refine lv_iload_n (pc := 41) hx hb dX8_take_41 rfl (lv_at hl 3 rfl) ?_
        obtain ⟨r8, hq8, hf⟩ := bd_e hf
        refine x_vI (pc := 42) (As := [.int r3, .int x1]) (rest := []) (isC := [0, 1]) (ws' := (w_X8_take G a_t a_t_s a_t_image a_t_mind a_t_aside a_t_text a_t_read a_t_comes a_t_begins a_t_latest a_t_move a_t_sort a_t_items a_t_cell a_t_carried t_isKept t_work t_kind t_letters t_at t_fault t_back t_waits t_miles t_loads t_bestRound t_bestPlace t_bestAdds t_regret t_z t_s t_comes t_begins)) C S (c_X8_placeIn l G a_t a_t_s a_t_image a_t_mind a_t_aside a_t_text a_t_read a_t_comes a_t_begins a_t_latest a_t_move a_t_sort a_t_items a_t_cell a_t_carried t_isKept t_work t_kind t_letters t_at t_fault t_back t_waits t_miles t_loads t_bestRound t_bestPlace t_bestAdds t_regret t_z t_s r3 x1 r8 hq8) (u_X8_take_X8_placeIn_66 hts) (ci := 8) rfl 0 rfl rfl (by decide +kernel) [some 0, some 1, none, none] (by decide +kernel) rfl rfl rfl hl.1 rfl (Nat.le_of_ble_eq_true rfl) dX8_take_42 (fun H locs S => ?_)
        refine lv_istore (pc := 45) (lv' := [(4, .int r8), (3, .int r7), (2, .int r3), (0, .ref a_t), (1, .int x1)]) hx hb dX8_take_45 hl (by decide) rfl (fun ls hl => ?_)
        refine lv_aload_n (pc := 47) hx hb dX8_take_47 rfl (lv_at hl 3 rfl) ?_
        refine lv_iload_n (pc := 48) hx hb dX8_take_48 rfl (lv_at hl 2 rfl) ?_
        refine lv_iload (pc := 49) hx hb dX8_take_49 (lv_at hl 0 rfl) ?_
        obtain ⟨o9_t_s, hq9, hf⟩ := bd_e hf
        refine x_vV (pc := 51) (As := [.int r3, .int r8]) (rest := []) (isC := [0, 1]) (ws' := (w_X8_take G a_t a_t_s a_t_image a_t_mind a_t_aside a_t_text a_t_read a_t_comes a_t_begins a_t_latest a_t_move a_t_sort a_t_items a_t_cell a_t_carried t_isKept t_work t_kind t_letters t_at t_fault t_back t_waits t_miles t_loads t_bestRound t_bestPlace t_bestAdds t_regret t_z o9_t_s t_comes t_begins)) C S (c_X8_removes l G a_t a_t_s a_t_image a_t_mind a_t_aside a_t_text a_t_read a_t_comes a_t_begins a_t_latest a_t_move a_t_sort a_t_items a_t_cell a_t_carried t_isKept t_work t_kind t_letters t_at t_fault t_back t_waits t_miles t_loads t_bestRound t_bestPlace t_bestAdds t_regret t_z t_s r3 r8 o9_t_s hq9) (u_X8_take_X8_removes_170 hts) (ci := 8) rfl 0 rfl rfl (by decide +kernel) [some 0, some 1, none, none] (by decide +kernel) rfl rfl rfl hl.1 rfl (Nat.le_of_ble_eq_true rfl) dX8_take_51 (fun H locs S => ?_)
        refine lv_aload_n (pc := 54) hx hb dX8_take_54 rfl (lv_at hl 3 rfl) ?_
        refine lv_iload_n (pc := 55) hx hb dX8_take_55 rfl (lv_at hl 2 rfl) ?_
        obtain ⟨⟨r10, o10_t_comes, o10_t_begins, o10_t_back, o10_t_waits, o10_t_loads⟩, hq10, hf⟩ := bd_e hf
        refine x_vI (pc := 56) (As := [.int r3]) (rest := []) (isC := [0, 1, 2, 3]) (ws' := (w_X8_take G a_t a_t_s a_t_image a_t_mind a_t_aside a_t_text a_t_read a_t_comes a_t_begins a_t_latest a_t_move a_t_sort a_t_items a_t_cell a_t_carried t_isKept t_work t_kind t_letters t_at t_fault o10_t_back o10_t_waits t_miles o10_t_loads t_bestRound t_bestPlace t_bestAdds t_regret t_z o9_t_s o10_t_comes o10_t_begins)) C S (c_X8_holds l G a_t a_t_s a_t_image a_t_mind a_t_aside a_t_text a_t_read a_t_comes a_t_begins a_t_latest a_t_move a_t_sort a_t_items a_t_cell a_t_carried t_isKept t_work t_kind t_letters t_at t_fault t_back t_waits t_miles t_loads t_bestRound t_bestPlace t_bestAdds t_regret t_z o9_t_s t_comes t_begins r3 r10 o10_t_comes o10_t_begins o10_t_back o10_t_waits o10_t_loads hq10) (u_X8_take_X8_holds_104 hts) (ci := 8) rfl 0 rfl rfl (by decide +kernel) [some 0, some 1, some 2, some 3] (by decide +kernel) rfl rfl rfl hl.1 rfl (Nat.le_of_ble_eq_true rfl) dX8_take_56 (fun H locs S => ?_)
        refine lv_if_eq (tgt := 69) (pc := 59) hx hb dX8_take_59 (by decide) (fun c11 => ?_) (fun c11 => ?_)
        · have hf := ifp c11 hf
          refine lv_aload_n (pc := 69) hx hb dX8_take_69 rfl (lv_at hl 3 rfl) ?_
          refine lv_iload_n (pc := 70) hx hb dX8_take_70 rfl (lv_at hl 2 rfl) ?_
          refine lv_iload (pc := 71) hx hb dX8_take_71 (lv_at hl 0 rfl) ?_
          refine lv_iload_n (pc := 73) hx hb dX8_take_73 rfl (lv_at hl 4 rfl) ?_
          obtain ⟨o12_t_s, hq12, hf⟩ := bd_e hf
          refine x_vV (pc := 74) (As := [.int r3, .int r8, .int x1]) (rest := []) (isC := [0, 1]) (ws' := (w_X8_take G a_t a_t_s a_t_image a_t_mind a_t_aside a_t_text a_t_read a_t_comes a_t_begins a_t_latest a_t_move a_t_sort a_t_items a_t_cell a_t_carried t_isKept t_work t_kind t_letters t_at t_fault o10_t_back o10_t_waits t_miles o10_t_loads t_bestRound t_bestPlace t_bestAdds t_regret t_z o12_t_s o10_t_comes o10_t_begins)) C S (c_X8_inserts l G a_t a_t_s a_t_image a_t_mind a_t_aside a_t_text a_t_read a_t_comes a_t_begins a_t_latest a_t_move a_t_sort a_t_items a_t_cell a_t_carried t_isKept t_work t_kind t_letters t_at t_fault o10_t_back o10_t_waits t_miles o10_t_loads t_bestRound t_bestPlace t_bestAdds t_regret t_z o9_t_s r3 r8 x1 o12_t_s hq12) (u_X8_take_X8_inserts_165 hts) (ci := 8) rfl 0 rfl rfl (by decide +kernel) [some 0, some 1, none, none] (by decide +kernel) rfl rfl rfl hl.1 rfl (Nat.le_of_ble_eq_true rfl) dX8_take_74 (fun H locs S => ?_)
          refine lv_bipush (pc := 77) hx hb dX8_take_77 bc_m3 ?_
          cases hf
          exact x_iret (pc := 79) C S dX8_take_79
        · have hf := ifn c11 hf
          refine lv_iload_n (pc := 62) hx hb dX8_take_62 rfl (lv_at hl 1 rfl) ?_
          refine lv_aload_n (pc := 63) hx hb dX8_take_63 rfl (lv_at hl 3 rfl) ?_
          obtain ⟨r13, hq13, hf⟩ := bd_e hf
          refine x_vI (pc := 64) (As := []) (rest := [.int r7]) (isC := [0, 1]) (ws' := (w_X8_take G a_t a_t_s a_t_image a_t_mind a_t_aside a_t_text a_t_read a_t_comes a_t_begins a_t_latest a_t_move a_t_sort a_t_items a_t_cell a_t_carried t_isKept t_work t_kind t_letters t_at t_fault o10_t_back o10_t_waits t_miles o10_t_loads t_bestRound t_bestPlace t_bestAdds t_regret t_z o9_t_s o10_t_comes o10_t_begins)) C S (c_X8_cost l G a_t a_t_s a_t_image a_t_mind a_t_aside a_t_text a_t_read a_t_comes a_t_begins a_t_latest a_t_move a_t_sort a_t_items a_t_cell a_t_carried t_isKept t_work t_kind t_letters t_at t_fault o10_t_back o10_t_waits t_miles o10_t_loads t_bestRound t_bestPlace t_bestAdds t_regret t_z o9_t_s r13 hq13) (u_X8_take_X8_cost_177 hts) (ci := 8) rfl 0 rfl rfl (by decide +kernel) [some 0, some 1, none, none] (by decide +kernel) rfl rfl rfl hl.1 rfl (Nat.le_of_ble_eq_true rfl) dX8_take_64 (fun H locs S => ?_)
          refine lv_isub (pc := 67) hx hb dX8_take_67 ?_
          cases hf
          exact x_iret (pc := 68) C S dX8_take_68
      · have hf := ifp c6 hf
        refine lv_bipush (pc := 31) hx hb dX8_take_31 bc_m3 ?_
        cases hf
        exact x_iret (pc := 33) C S dX8_take_33
  · have hf := ifp c2 hf
    refine lv_iconst (pc := 8) hx hb dX8_take_8 ic_m1 ?_
    cases hf
    exact x_iret (pc := 9) C S dX8_take_9
end

abbrev rm_X8_goes : Room := { frames := 9, cells := 0, slots := 0, locals := 221 }
abbrev kw_X8_goes : Cond := .code yX8_goes cX8_goes 3 none
abbrev w_X8_goes (G : GE) (a_t a_t_s a_t_image a_t_mind a_t_aside a_t_text a_t_read a_t_comes a_t_begins a_t_latest a_t_move a_t_sort a_t_items a_t_cell a_t_carried : Nat) (t_isKept : Int32) (t_work : Int32) (t_kind : Int32) (t_letters : Int32) (t_at : Int32) (t_fault : Int32) (t_back : Int32) (t_waits : Int32) (t_miles : Int32) (t_loads : Int32) (t_bestRound : Int32) (t_bestPlace : Int32) (t_bestAdds : Int32) (t_regret : Int32) (t_z : Int32) (t_s : Nat → Int32) (t_comes : Nat → Int32) (t_begins : Nat → Int32) (t_move : Nat → Int32) : va_W := [(a_t, ob 8 [.ref a_t_s, .ref a_t_image, .ref a_t_mind, .ref a_t_aside, .int t_isKept, .int t_work, .int t_kind, .ref a_t_text, .ref a_t_read, .int t_letters, .int t_at, .int t_fault, .ref a_t_comes, .ref a_t_begins, .ref a_t_latest, .int t_back, .int t_waits, .int t_miles, .int t_loads, .int t_bestRound, .int t_bestPlace, .int t_bestAdds, .int t_regret, .ref a_t_move, .ref a_t_sort, .ref a_t_items, .ref a_t_cell, .ref a_t_carried, .int t_z]), (a_t_s, aI G 258 t_s), (a_t_comes, aI G 16 t_comes), (a_t_begins, aI G 16 t_begins), (a_t_move, aI G 5 t_move)]
theorem u_X8_goes_X8_fills_211 {s : State} {args : Array Value} (hts : ∀ w ∈ WU, w.before args s = true) : CallW rm_X8_goes s args RX8 RX8 211 yX8_fills cX8_fills 8 (some .int) (kw_X8_fills :: WU) rm_X8_fills 0 0 0 := cwV 0 hts (gV qm_8_211 qi_X8_fills ql_X8_fills qn_8 qc_X8_fills) rfl rfl rfl (by decide +kernel) ⟨Nat.le_of_ble_eq_true rfl, Nat.le_of_ble_eq_true rfl⟩
theorem u_X8_goes_X8_findsBest_233 {s : State} {args : Array Value} (hts : ∀ w ∈ WU, w.before args s = true) : CallW rm_X8_goes s args RX8 RX8 233 yX8_findsBest cX8_findsBest 7 (some .boolean) (kw_X8_findsBest :: WU) rm_X8_findsBest 0 0 0 := cwV 0 hts (gV qm_8_233 qi_X8_findsBest ql_X8_findsBest qn_8 qc_X8_findsBest) rfl rfl rfl (by decide +kernel) ⟨Nat.le_of_ble_eq_true rfl, Nat.le_of_ble_eq_true rfl⟩
theorem u_X8_goes_X8_doesBest_236 {s : State} {args : Array Value} (hts : ∀ w ∈ WU, w.before args s = true) : CallW rm_X8_goes s args RX8 RX8 236 yX8_doesBest cX8_doesBest 2 none (kw_X8_doesBest :: WU) rm_X8_doesBest 0 0 0 := cwV 0 hts (gV qm_8_236 qi_X8_doesBest ql_X8_doesBest qn_8 qc_X8_doesBest) rfl rfl rfl (by decide +kernel) ⟨Nat.le_of_ble_eq_true rfl, Nat.le_of_ble_eq_true rfl⟩
theorem u_X8_goes_X8_take_279 {s : State} {args : Array Value} (hts : ∀ w ∈ WU, w.before args s = true) : CallW rm_X8_goes s args RX8 RX8 279 yX8_take cX8_take 5 (some .int) (kw_X8_take :: WU) rm_X8_take 0 0 1 := cwV 1 hts (gV qm_8_279 qi_X8_take ql_X8_take qn_8 qc_X8_take) rfl rfl rfl (by decide +kernel) ⟨Nat.le_of_ble_eq_true rfl, Nat.le_of_ble_eq_true rfl⟩
section
variable {p : Program} {l : Launch} {e : Env} {s : State} {m : MethodId} {args : Array Value} {below : List Frame} {meth : Method} {c : Code} {A : Nat → Prop} {G : GE} {a_t a_t_s a_t_image a_t_mind a_t_aside a_t_text a_t_read a_t_comes a_t_begins a_t_latest a_t_move a_t_sort a_t_items a_t_cell a_t_carried : Nat} {z_t_s : Nat → Int32} {z_t_comes : Nat → Int32} {z_t_begins : Nat → Int32} {z_t_back : Int32} {z_t_waits : Int32} {z_t_loads : Int32} {z_t_bestRound : Int32} {z_t_bestPlace : Int32} {z_t_bestAdds : Int32} {z_t_regret : Int32} {z_t_move : Nat → Int32}
set_option maxRecDepth 100000 in
set_option maxHeartbeats 4000000 in
theorem k_X8_goes_36 (C : Cx p s m args meth c cX8_goes none 3 RX8 G A) (t_isKept : Int32) (t_work : Int32) (t_kind : Int32) (t_letters : Int32) (t_at : Int32) (t_fault : Int32) (t_back : Int32) (t_waits : Int32) (t_miles : Int32) (t_loads : Int32) (t_bestRound : Int32) (t_bestPlace : Int32) (t_bestAdds : Int32) (t_regret : Int32) (t_z : Int32) (t_s : Nat → Int32) (t_comes : Nat → Int32) (t_begins : Nat → Int32) (t_move : Nat → Int32) (x1 : Int32) (x2 : Int32) {H : Heap} {locs : List Loc} {ls : Array Slot} (hf : b_X8_goes_36 x1 x2 t_s t_comes t_begins t_back t_waits t_loads t_bestRound t_bestPlace t_bestAdds t_regret t_move = some (z_t_s, z_t_comes, z_t_begins, z_t_back, z_t_waits, z_t_loads, z_t_bestRound, z_t_bestPlace, z_t_bestAdds, z_t_regret, z_t_move)) (S : St G A s.heap H locs (w_X8_goes G a_t a_t_s a_t_image a_t_mind a_t_aside a_t_text a_t_read a_t_comes a_t_begins a_t_latest a_t_move a_t_sort a_t_items a_t_cell a_t_carried t_isKept t_work t_kind t_letters t_at t_fault t_back t_waits t_miles t_loads t_bestRound t_bestPlace t_bestAdds t_regret t_z t_s t_comes t_begins t_move)) (hl : lv_has ls 3 [(0, .ref a_t), (1, .int x1), (2, .int x2)]) : W p l e rm_X8_goes s m args below meth c H locs 0 0 (QV G below args s A (w_X8_goes G a_t a_t_s a_t_image a_t_mind a_t_aside a_t_text a_t_read a_t_comes a_t_begins a_t_latest a_t_move a_t_sort a_t_items a_t_cell a_t_carried t_isKept t_work t_kind t_letters t_at t_fault z_t_back z_t_waits t_miles z_t_loads z_t_bestRound z_t_bestPlace z_t_bestAdds z_t_regret t_z z_t_s z_t_comes z_t_begins z_t_move)) (F0 m 36 ls []) := by
  unfold b_X8_goes_36 at hf
  have hx := C.1
  have hb := C.2.1
  have hown := C.2.2.2.2.1
  have hts := C.2.2.2.2.2.1
  have hN := C.2.2.2.2.2.2.2.2.2.2
  refine lv_iload_n (pc := 36) hx hb dX8_goes_36 rfl (lv_at hl 1 rfl) ?_
  refine lv_iconst (pc := 37) hx hb dX8_goes_37 ic_3 ?_
  refine lv_icmp_ne (tgt := 48) (pc := 38) hx hb dX8_goes_38 (by decide) (fun c1 => ?_) (fun c1 => ?_)
  · have hf := ifn c1 hf
    cases hf
    exact x_vret (pc := 48) C S dX8_goes_48
  · have hf := ifp c1 hf
    refine lv_aload_n (pc := 41) hx hb dX8_goes_41 rfl (lv_at hl 0 rfl) ?_
    refine x_get (pc := 42) (ci := 8) (T := TX8) (v := .ref a_t_s) C S 0 rfl rfl inlX8 0 (by decide) rfl qf_8_11 rfl dX8_goes_42 ?_
    refine lv_iconst (pc := 45) hx hb dX8_goes_45 ic_3 ?_
    refine lv_iload_n (pc := 46) hx hb dX8_goes_46 rfl (lv_at hl 2 rfl) ?_
    refine x_iast (pc := 47) (ws' := (w_X8_goes G a_t a_t_s a_t_image a_t_mind a_t_aside a_t_text a_t_read a_t_comes a_t_begins a_t_latest a_t_move a_t_sort a_t_items a_t_cell a_t_carried t_isKept t_work t_kind t_letters t_at t_fault t_back t_waits t_miles t_loads t_bestRound t_bestPlace t_bestAdds t_regret t_z (upd t_s (3 : Int32).toNatClampNeg x2) t_comes t_begins t_move)) C S 1 rfl (vp_in_iff.mpr (by decide)) rfl dX8_goes_47 (fun H locs S => ?_)
    cases hf
    exact x_vret (pc := 48) C S dX8_goes_48
set_option maxRecDepth 100000 in
set_option maxHeartbeats 4000000 in
theorem k_X8_goes_25 (C : Cx p s m args meth c cX8_goes none 3 RX8 G A) (t_isKept : Int32) (t_work : Int32) (t_kind : Int32) (t_letters : Int32) (t_at : Int32) (t_fault : Int32) (t_back : Int32) (t_waits : Int32) (t_miles : Int32) (t_loads : Int32) (t_bestRound : Int32) (t_bestPlace : Int32) (t_bestAdds : Int32) (t_regret : Int32) (t_z : Int32) (t_s : Nat → Int32) (t_comes : Nat → Int32) (t_begins : Nat → Int32) (t_move : Nat → Int32) (x1 : Int32) (x2 : Int32) {H : Heap} {locs : List Loc} {ls : Array Slot} (hf : b_X8_goes_25 x1 x2 t_s t_comes t_begins t_back t_waits t_loads t_bestRound t_bestPlace t_bestAdds t_regret t_move = some (z_t_s, z_t_comes, z_t_begins, z_t_back, z_t_waits, z_t_loads, z_t_bestRound, z_t_bestPlace, z_t_bestAdds, z_t_regret, z_t_move)) (S : St G A s.heap H locs (w_X8_goes G a_t a_t_s a_t_image a_t_mind a_t_aside a_t_text a_t_read a_t_comes a_t_begins a_t_latest a_t_move a_t_sort a_t_items a_t_cell a_t_carried t_isKept t_work t_kind t_letters t_at t_fault t_back t_waits t_miles t_loads t_bestRound t_bestPlace t_bestAdds t_regret t_z t_s t_comes t_begins t_move)) (hl : lv_has ls 3 [(0, .ref a_t), (1, .int x1), (2, .int x2)]) : W p l e rm_X8_goes s m args below meth c H locs 0 0 (QV G below args s A (w_X8_goes G a_t a_t_s a_t_image a_t_mind a_t_aside a_t_text a_t_read a_t_comes a_t_begins a_t_latest a_t_move a_t_sort a_t_items a_t_cell a_t_carried t_isKept t_work t_kind t_letters t_at t_fault z_t_back z_t_waits t_miles z_t_loads z_t_bestRound z_t_bestPlace z_t_bestAdds z_t_regret t_z z_t_s z_t_comes z_t_begins z_t_move)) (F0 m 25 ls []) := by
  unfold b_X8_goes_25 at hf
  have hx := C.1
  have hb := C.2.1
  have hown := C.2.2.2.2.1
  have hts := C.2.2.2.2.2.1
  have hN := C.2.2.2.2.2.2.2.2.2.2
  refine lv_iload_n (pc := 25) hx hb dX8_goes_25 rfl (lv_at hl 1 rfl) ?_
  refine lv_iconst (pc := 26) hx hb dX8_goes_26 ic_2 ?_
  refine lv_icmp_ne (tgt := 36) (pc := 27) hx hb dX8_goes_27 (by decide) (fun c1 => ?_) (fun c1 => ?_)
  · have hf := ifn c1 hf
    exact k_X8_goes_36 C (t_isKept) (t_work) (t_kind) (t_letters) (t_at) (t_fault) (t_back) (t_waits) (t_miles) (t_loads) (t_bestRound) (t_bestPlace) (t_bestAdds) (t_regret) (t_z) (t_s) (t_comes) (t_begins) (t_move) (x1) (x2) hf S (lv_sub hl [0, 1, 2] rfl)
  · have hf := ifp c1 hf
    refine lv_aload_n (pc := 30) hx hb dX8_goes_30 rfl (lv_at hl 0 rfl) ?_
    refine lv_iload_n (pc := 31) hx hb dX8_goes_31 rfl (lv_at hl 2 rfl) ?_
    obtain ⟨⟨r2, o2_t_s, o2_t_comes, o2_t_begins, o2_t_back, o2_t_waits, o2_t_loads⟩, hq2, hf⟩ := bd_e hf
    refine x_vI (pc := 32) (As := [.int x2]) (rest := []) (isC := [0, 1, 2, 3]) (ws' := (w_X8_goes G a_t a_t_s a_t_image a_t_mind a_t_aside a_t_text a_t_read a_t_comes a_t_begins a_t_latest a_t_move a_t_sort a_t_items a_t_cell a_t_carried t_isKept t_work t_kind t_letters t_at t_fault o2_t_back o2_t_waits t_miles o2_t_loads t_bestRound t_bestPlace t_bestAdds t_regret t_z o2_t_s o2_t_comes o2_t_begins t_move)) C S (c_X8_take l G a_t a_t_s a_t_image a_t_mind a_t_aside a_t_text a_t_read a_t_comes a_t_begins a_t_latest a_t_move a_t_sort a_t_items a_t_cell a_t_carried t_isKept t_work t_kind t_letters t_at t_fault t_back t_waits t_miles t_loads t_bestRound t_bestPlace t_bestAdds t_regret t_z t_s t_comes t_begins x2 r2 o2_t_s o2_t_comes o2_t_begins o2_t_back o2_t_waits o2_t_loads hq2) (u_X8_goes_X8_take_279 hts) (ci := 8) rfl 0 rfl rfl (by decide +kernel) [some 0, some 1, some 2, some 3, none] (by decide +kernel) rfl rfl rfl hl.1 rfl (Nat.le_of_ble_eq_true rfl) dX8_goes_32 (fun H locs S => ?_)
    refine lv_pop (pc := 35) hx hb dX8_goes_35 rfl ?_
    exact k_X8_goes_36 C (t_isKept) (t_work) (t_kind) (t_letters) (t_at) (t_fault) (o2_t_back) (o2_t_waits) (t_miles) (o2_t_loads) (t_bestRound) (t_bestPlace) (t_bestAdds) (t_regret) (t_z) (o2_t_s) (o2_t_comes) (o2_t_begins) (t_move) (x1) (x2) hf S (lv_sub hl [0, 1, 2] rfl)
set_option maxRecDepth 100000 in
set_option maxHeartbeats 4000000 in
theorem k_X8_goes_9 (C : Cx p s m args meth c cX8_goes none 3 RX8 G A) (t_isKept : Int32) (t_work : Int32) (t_kind : Int32) (t_letters : Int32) (t_at : Int32) (t_fault : Int32) (t_back : Int32) (t_waits : Int32) (t_miles : Int32) (t_loads : Int32) (t_bestRound : Int32) (t_bestPlace : Int32) (t_bestAdds : Int32) (t_regret : Int32) (t_z : Int32) (t_s : Nat → Int32) (t_comes : Nat → Int32) (t_begins : Nat → Int32) (t_move : Nat → Int32) (x1 : Int32) (x2 : Int32) {H : Heap} {locs : List Loc} {ls : Array Slot} (hf : b_X8_goes_9 x1 x2 t_s t_comes t_begins t_back t_waits t_loads t_bestRound t_bestPlace t_bestAdds t_regret t_move = some (z_t_s, z_t_comes, z_t_begins, z_t_back, z_t_waits, z_t_loads, z_t_bestRound, z_t_bestPlace, z_t_bestAdds, z_t_regret, z_t_move)) (S : St G A s.heap H locs (w_X8_goes G a_t a_t_s a_t_image a_t_mind a_t_aside a_t_text a_t_read a_t_comes a_t_begins a_t_latest a_t_move a_t_sort a_t_items a_t_cell a_t_carried t_isKept t_work t_kind t_letters t_at t_fault t_back t_waits t_miles t_loads t_bestRound t_bestPlace t_bestAdds t_regret t_z t_s t_comes t_begins t_move)) (hl : lv_has ls 3 [(0, .ref a_t), (1, .int x1), (2, .int x2)]) : W p l e rm_X8_goes s m args below meth c H locs 0 0 (QV G below args s A (w_X8_goes G a_t a_t_s a_t_image a_t_mind a_t_aside a_t_text a_t_read a_t_comes a_t_begins a_t_latest a_t_move a_t_sort a_t_items a_t_cell a_t_carried t_isKept t_work t_kind t_letters t_at t_fault z_t_back z_t_waits t_miles z_t_loads z_t_bestRound z_t_bestPlace z_t_bestAdds z_t_regret t_z z_t_s z_t_comes z_t_begins z_t_move)) (F0 m 9 ls []) := by
  unfold b_X8_goes_9 at hf
  have hx := C.1
  have hb := C.2.1
  have hown := C.2.2.2.2.1
  have hts := C.2.2.2.2.2.1
  have hN := C.2.2.2.2.2.2.2.2.2.2
  refine lv_iload_n (pc := 9) hx hb dX8_goes_9 rfl (lv_at hl 1 rfl) ?_
  refine lv_iconst (pc := 10) hx hb dX8_goes_10 ic_1 ?_
  refine lv_icmp_ne (tgt := 25) (pc := 11) hx hb dX8_goes_11 (by decide) (fun c1 => ?_) (fun c1 => ?_)
  · have hf := ifn c1 hf
    exact k_X8_goes_25 C (t_isKept) (t_work) (t_kind) (t_letters) (t_at) (t_fault) (t_back) (t_waits) (t_miles) (t_loads) (t_bestRound) (t_bestPlace) (t_bestAdds) (t_regret) (t_z) (t_s) (t_comes) (t_begins) (t_move) (x1) (x2) hf S (lv_sub hl [0, 1, 2] rfl)
  · have hf := ifp c1 hf
    refine lv_aload_n (pc := 14) hx hb dX8_goes_14 rfl (lv_at hl 0 rfl) ?_
    obtain ⟨⟨r2, o2_t_s, o2_t_comes, o2_t_begins, o2_t_back, o2_t_waits, o2_t_loads, o2_t_move⟩, hq2, hf⟩ := bd_e hf
    refine x_vI (pc := 15) (As := []) (rest := []) (isC := [0, 1, 2, 3, 4]) (ws' := (w_X8_goes G a_t a_t_s a_t_image a_t_mind a_t_aside a_t_text a_t_read a_t_comes a_t_begins a_t_latest a_t_move a_t_sort a_t_items a_t_cell a_t_carried t_isKept t_work t_kind t_letters t_at t_fault o2_t_back o2_t_waits t_miles o2_t_loads t_bestRound t_bestPlace t_bestAdds t_regret t_z o2_t_s o2_t_comes o2_t_begins o2_t_move)) C S (c_X8_findsBest l G a_t a_t_s a_t_image a_t_mind a_t_aside a_t_text a_t_read a_t_comes a_t_begins a_t_latest a_t_move a_t_sort a_t_items a_t_cell a_t_carried t_isKept t_work t_kind t_letters t_at t_fault t_back t_waits t_miles t_loads t_bestRound t_bestPlace t_bestAdds t_regret t_z t_s t_comes t_begins t_move r2 o2_t_s o2_t_comes o2_t_begins o2_t_back o2_t_waits o2_t_loads o2_t_move hq2) (u_X8_goes_X8_findsBest_233 hts) (ci := 8) rfl 0 rfl rfl (by decide +kernel) [some 0, some 1, some 2, some 3, some 4] (by decide +kernel) rfl rfl rfl hl.1 rfl (Nat.le_of_ble_eq_true rfl) dX8_goes_15 (fun H locs S => ?_)
    refine lv_if_eq (tgt := 25) (pc := 18) hx hb dX8_goes_18 (by decide) (fun c3 => ?_) (fun c3 => ?_)
    · have hf := ifp c3 hf
      exact k_X8_goes_25 C (t_isKept) (t_work) (t_kind) (t_letters) (t_at) (t_fault) (o2_t_back) (o2_t_waits) (t_miles) (o2_t_loads) (t_bestRound) (t_bestPlace) (t_bestAdds) (t_regret) (t_z) (o2_t_s) (o2_t_comes) (o2_t_begins) (o2_t_move) (x1) (x2) hf S (lv_sub hl [0, 1, 2] rfl)
    · have hf := ifn c3 hf
      refine lv_aload_n (pc := 21) hx hb dX8_goes_21 rfl (lv_at hl 0 rfl) ?_
      obtain ⟨o4_t_s, hq4, hf⟩ := bd_e hf
      refine x_vV (pc := 22) (As := []) (rest := []) (isC := [0, 1, 4]) (ws' := (w_X8_goes G a_t a_t_s a_t_image a_t_mind a_t_aside a_t_text a_t_read a_t_comes a_t_begins a_t_latest a_t_move a_t_sort a_t_items a_t_cell a_t_carried t_isKept t_work t_kind t_letters t_at t_fault o2_t_back o2_t_waits t_miles o2_t_loads t_bestRound t_bestPlace t_bestAdds t_regret t_z o4_t_s o2_t_comes o2_t_begins o2_t_move)) C S (c_X8_doesBest l G a_t a_t_s a_t_image a_t_mind a_t_aside a_t_text a_t_read a_t_comes a_t_begins a_t_latest a_t_move a_t_sort a_t_items a_t_cell a_t_carried t_isKept t_work t_kind t_letters t_at t_fault o2_t_back o2_t_waits t_miles o2_t_loads t_bestRound t_bestPlace t_bestAdds t_regret t_z o2_t_s o2_t_move o4_t_s hq4) (u_X8_goes_X8_doesBest_236 hts) (ci := 8) rfl 0 rfl rfl (by decide +kernel) [some 0, some 1, none, none, some 2] (by decide +kernel) rfl rfl rfl hl.1 rfl (Nat.le_of_ble_eq_true rfl) dX8_goes_22 (fun H locs S => ?_)
      exact k_X8_goes_25 C (t_isKept) (t_work) (t_kind) (t_letters) (t_at) (t_fault) (o2_t_back) (o2_t_waits) (t_miles) (o2_t_loads) (t_bestRound) (t_bestPlace) (t_bestAdds) (t_regret) (t_z) (o4_t_s) (o2_t_comes) (o2_t_begins) (o2_t_move) (x1) (x2) hf S (lv_sub hl [0, 1, 2] rfl)
set_option maxRecDepth 100000 in
set_option maxHeartbeats 4000000 in
theorem c_X8_goes (l : Launch) (G : GE) (a_t a_t_s a_t_image a_t_mind a_t_aside a_t_text a_t_read a_t_comes a_t_begins a_t_latest a_t_move a_t_sort a_t_items a_t_cell a_t_carried : Nat) (t_isKept : Int32) (t_work : Int32) (t_kind : Int32) (t_letters : Int32) (t_at : Int32) (t_fault : Int32) (t_back : Int32) (t_waits : Int32) (t_miles : Int32) (t_loads : Int32) (t_bestRound : Int32) (t_bestPlace : Int32) (t_bestAdds : Int32) (t_regret : Int32) (t_z : Int32) (t_s : Nat → Int32) (t_comes : Nat → Int32) (t_begins : Nat → Int32) (t_move : Nat → Int32) (x1 : Int32) (x2 : Int32) (z_t_s : Nat → Int32) (z_t_comes : Nat → Int32) (z_t_begins : Nat → Int32) (z_t_back : Int32) (z_t_waits : Int32) (z_t_loads : Int32) (z_t_bestRound : Int32) (z_t_bestPlace : Int32) (z_t_bestAdds : Int32) (z_t_regret : Int32) (z_t_move : Nat → Int32) (hf : f_X8_goes t_s t_comes t_begins t_back t_waits t_loads t_bestRound t_bestPlace t_bestAdds t_regret t_move x1 x2 = some (z_t_s, z_t_comes, z_t_begins, z_t_back, z_t_waits, z_t_loads, z_t_bestRound, z_t_bestPlace, z_t_bestAdds, z_t_regret, z_t_move)) : CV l G yX8_goes kw_X8_goes rm_X8_goes [.ref a_t, .int x1, .int x2] (w_X8_goes G a_t a_t_s a_t_image a_t_mind a_t_aside a_t_text a_t_read a_t_comes a_t_begins a_t_latest a_t_move a_t_sort a_t_items a_t_cell a_t_carried t_isKept t_work t_kind t_letters t_at t_fault t_back t_waits t_miles t_loads t_bestRound t_bestPlace t_bestAdds t_regret t_z t_s t_comes t_begins t_move) (w_X8_goes G a_t a_t_s a_t_image a_t_mind a_t_aside a_t_text a_t_read a_t_comes a_t_begins a_t_latest a_t_move a_t_sort a_t_items a_t_cell a_t_carried t_isKept t_work t_kind t_letters t_at t_fault z_t_back z_t_waits t_miles z_t_loads z_t_bestRound z_t_bestPlace z_t_bestAdds z_t_regret t_z z_t_s z_t_comes z_t_begins z_t_move) := by
  refine en_V (cc := cX8_goes) (maxL := 3) (ret := none) (by decide +kernel) (Nat.le_of_ble_eq_true rfl) ?_
  intro p e s m args below meth c A ls C S hl
  have hl : lv_has ls 3 [(0, .ref a_t), (1, .int x1), (2, .int x2)] := hl
  have C : Cx p s m args meth c cX8_goes none 3 RX8 G A := C
  unfold f_X8_goes at hf
  have hx := C.1
  have hb := C.2.1
  have hown := C.2.2.2.2.1
  have hts := C.2.2.2.2.2.1
  have hN := C.2.2.2.2.2.2.2.2.2.2
  refine lv_iload_n (pc := 0) hx hb dX8_goes_0 rfl (lv_at hl 1 rfl) ?_
  refine lv_if_ne (tgt := 9) (pc := 1) hx hb dX8_goes_1 (by decide) (fun c1 => ?_) (fun c1 => ?_)
  · have hf := ifn c1 hf
    exact k_X8_goes_9 C (t_isKept) (t_work) (t_kind) (t_letters) (t_at) (t_fault) (t_back) (t_waits) (t_miles) (t_loads) (t_bestRound) (t_bestPlace) (t_bestAdds) (t_regret) (t_z) (t_s) (t_comes) (t_begins) (t_move) (x1) (x2) hf S (lv_sub hl [0, 1, 2] rfl)
  · have hf := ifp c1 hf
    refine lv_aload_n (pc := 4) hx hb dX8_goes_4 rfl (lv_at hl 0 rfl) ?_
    obtain ⟨⟨r2, o2_t_s, o2_t_comes, o2_t_begins, o2_t_back, o2_t_waits, o2_t_loads, o2_t_bestRound, o2_t_bestPlace, o2_t_bestAdds, o2_t_regret⟩, hq2, hf⟩ := bd_e hf
    refine x_vI (pc := 5) (As := []) (rest := []) (isC := [0, 1, 2, 3]) (ws' := (w_X8_goes G a_t a_t_s a_t_image a_t_mind a_t_aside a_t_text a_t_read a_t_comes a_t_begins a_t_latest a_t_move a_t_sort a_t_items a_t_cell a_t_carried t_isKept t_work t_kind t_letters t_at t_fault o2_t_back o2_t_waits t_miles o2_t_loads o2_t_bestRound o2_t_bestPlace o2_t_bestAdds o2_t_regret t_z o2_t_s o2_t_comes o2_t_begins t_move)) C S (c_X8_fills l G a_t a_t_s a_t_image a_t_mind a_t_aside a_t_text a_t_read a_t_comes a_t_begins a_t_latest a_t_move a_t_sort a_t_items a_t_cell a_t_carried t_isKept t_work t_kind t_letters t_at t_fault t_back t_waits t_miles t_loads t_bestRound t_bestPlace t_bestAdds t_regret t_z t_s t_comes t_begins r2 o2_t_s o2_t_comes o2_t_begins o2_t_back o2_t_waits o2_t_loads o2_t_bestRound o2_t_bestPlace o2_t_bestAdds o2_t_regret hq2) (u_X8_goes_X8_fills_211 hts) (ci := 8) rfl 0 rfl rfl (by decide +kernel) [some 0, some 1, some 2, some 3, none] (by decide +kernel) rfl rfl rfl hl.1 rfl (Nat.le_of_ble_eq_true rfl) dX8_goes_5 (fun H locs S => ?_)
    refine lv_pop (pc := 8) hx hb dX8_goes_8 rfl ?_
    exact k_X8_goes_9 C (t_isKept) (t_work) (t_kind) (t_letters) (t_at) (t_fault) (o2_t_back) (o2_t_waits) (t_miles) (o2_t_loads) (o2_t_bestRound) (o2_t_bestPlace) (o2_t_bestAdds) (o2_t_regret) (t_z) (o2_t_s) (o2_t_comes) (o2_t_begins) (t_move) (x1) (x2) hf S (lv_sub hl [0, 1, 2] rfl)
end

abbrev rm_X8_ends : Room := { frames := 10, cells := 0, slots := 0, locals := 243 }
abbrev kw_X8_ends : Cond := .code yX8_ends cX8_ends 3 (some .int)
abbrev w_X8_ends (G : GE) (a_t a_t_s a_t_image a_t_mind a_t_aside a_t_text a_t_read a_t_comes a_t_begins a_t_latest a_t_move a_t_sort a_t_items a_t_cell a_t_carried : Nat) (t_isKept : Int32) (t_work : Int32) (t_kind : Int32) (t_letters : Int32) (t_at : Int32) (t_fault : Int32) (t_back : Int32) (t_waits : Int32) (t_miles : Int32) (t_loads : Int32) (t_bestRound : Int32) (t_bestPlace : Int32) (t_bestAdds : Int32) (t_regret : Int32) (t_z : Int32) (t_s : Nat → Int32) (t_mind : Nat → Int32) (t_comes : Nat → Int32) (t_begins : Nat → Int32) (t_move : Nat → Int32) : va_W := [(a_t, ob 8 [.ref a_t_s, .ref a_t_image, .ref a_t_mind, .ref a_t_aside, .int t_isKept, .int t_work, .int t_kind, .ref a_t_text, .ref a_t_read, .int t_letters, .int t_at, .int t_fault, .ref a_t_comes, .ref a_t_begins, .ref a_t_latest, .int t_back, .int t_waits, .int t_miles, .int t_loads, .int t_bestRound, .int t_bestPlace, .int t_bestAdds, .int t_regret, .ref a_t_move, .ref a_t_sort, .ref a_t_items, .ref a_t_cell, .ref a_t_carried, .int t_z]), (a_t_s, aI G 258 t_s), (a_t_mind, aI G 258 t_mind), (a_t_comes, aI G 16 t_comes), (a_t_begins, aI G 16 t_begins), (a_t_move, aI G 5 t_move)]
theorem u_X8_ends_X8_isIn_55 {s : State} {args : Array Value} (hts : ∀ w ∈ WU, w.before args s = true) : CallB rm_X8_ends s args RX8 55 yX8_isIn cX8_isIn 3 (some .boolean) (kw_X8_isIn :: WU) rm_X8_isIn 0 0 3 ∧ (Cond.static yX8_isIn).before args s = true := va_cwS 3 hts (gS qm_8_55 qs_X8_isIn qn_8 qc_X8_isIn) rfl rfl rfl (by decide +kernel) ⟨Nat.le_of_ble_eq_true rfl, Nat.le_of_ble_eq_true rfl⟩
theorem u_X8_ends_X8_works_208 {s : State} {args : Array Value} (hts : ∀ w ∈ WU, w.before args s = true) : CallW rm_X8_ends s args RX8 RX8 208 yX8_works cX8_works 2 (some .boolean) (kw_X8_works :: WU) rm_X8_works 0 0 1 := cwV 1 hts (gV qm_8_208 qi_X8_works ql_X8_works qn_8 qc_X8_works) rfl rfl rfl (by decide +kernel) ⟨Nat.le_of_ble_eq_true rfl, Nat.le_of_ble_eq_true rfl⟩
theorem u_X8_ends_X8_copies_269 {s : State} {args : Array Value} (hts : ∀ w ∈ WU, w.before args s = true) : CallB rm_X8_ends s args RX8 269 yX8_copies cX8_copies 3 none (kw_X8_copies :: WU) rm_X8_copies 0 0 2 ∧ (Cond.static yX8_copies).before args s = true := va_cwS 2 hts (gS qm_8_269 qs_X8_copies qn_8 qc_X8_copies) rfl rfl rfl (by decide +kernel) ⟨Nat.le_of_ble_eq_true rfl, Nat.le_of_ble_eq_true rfl⟩
theorem u_X8_ends_X8_inNone_242 {s : State} {args : Array Value} (hts : ∀ w ∈ WU, w.before args s = true) : CallW rm_X8_ends s args RX8 RX8 242 yX8_inNone cX8_inNone 3 (some .int) (kw_X8_inNone :: WU) rm_X8_inNone 0 0 0 := cwV 0 hts (gV qm_8_242 qi_X8_inNone ql_X8_inNone qn_8 qc_X8_inNone) rfl rfl rfl (by decide +kernel) ⟨Nat.le_of_ble_eq_true rfl, Nat.le_of_ble_eq_true rfl⟩
theorem u_X8_ends_X8_cost_177 {s : State} {args : Array Value} (hts : ∀ w ∈ WU, w.before args s = true) : CallW rm_X8_ends s args RX8 RX8 177 yX8_cost cX8_cost 3 (some .int) (kw_X8_cost :: WU) rm_X8_cost 0 0 0 := cwV 0 hts (gV qm_8_177 qi_X8_cost ql_X8_cost qn_8 qc_X8_cost) rfl rfl rfl (by decide +kernel) ⟨Nat.le_of_ble_eq_true rfl, Nat.le_of_ble_eq_true rfl⟩
theorem u_X8_ends_X8_goes_282 {s : State} {args : Array Value} (hts : ∀ w ∈ WU, w.before args s = true) : CallW rm_X8_ends s args RX8 RX8 282 yX8_goes cX8_goes 3 none (kw_X8_goes :: WU) rm_X8_goes 0 0 2 := cwV 2 hts (gV qm_8_282 qi_X8_goes ql_X8_goes qn_8 qc_X8_goes) rfl rfl rfl (by decide +kernel) ⟨Nat.le_of_ble_eq_true rfl, Nat.le_of_ble_eq_true rfl⟩
section
variable {p : Program} {l : Launch} {e : Env} {s : State} {m : MethodId} {args : Array Value} {below : List Frame} {meth : Method} {c : Code} {A : Nat → Prop} {G : GE} {a_t a_t_s a_t_image a_t_mind a_t_aside a_t_text a_t_read a_t_comes a_t_begins a_t_latest a_t_move a_t_sort a_t_items a_t_cell a_t_carried : Nat} {r : Int32} {z_t_s : Nat → Int32} {z_t_mind : Nat → Int32} {z_t_work : Int32} {z_t_comes : Nat → Int32} {z_t_begins : Nat → Int32} {z_t_back : Int32} {z_t_waits : Int32} {z_t_loads : Int32} {z_t_bestRound : Int32} {z_t_bestPlace : Int32} {z_t_bestAdds : Int32} {z_t_regret : Int32} {z_t_move : Nat → Int32}
set_option maxRecDepth 100000 in
set_option maxHeartbeats 4000000 in
theorem k_X8_ends_101 (C : Cx p s m args meth c cX8_ends (some .int) 3 RX8 G A) (t_isKept : Int32) (t_work : Int32) (t_kind : Int32) (t_letters : Int32) (t_at : Int32) (t_fault : Int32) (t_back : Int32) (t_waits : Int32) (t_miles : Int32) (t_loads : Int32) (t_bestRound : Int32) (t_bestPlace : Int32) (t_bestAdds : Int32) (t_regret : Int32) (t_z : Int32) (t_s : Nat → Int32) (t_mind : Nat → Int32) (t_comes : Nat → Int32) (t_begins : Nat → Int32) (t_move : Nat → Int32) (y0 : Int32) {H : Heap} {locs : List Loc} {ls : Array Slot} (hf : b_X8_ends_101 y0 t_s t_mind t_work t_comes t_begins t_back t_waits t_loads t_bestRound t_bestPlace t_bestAdds t_regret t_move = some (r, z_t_s, z_t_mind, z_t_work, z_t_comes, z_t_begins, z_t_back, z_t_waits, z_t_loads, z_t_bestRound, z_t_bestPlace, z_t_bestAdds, z_t_regret, z_t_move)) (S : St G A s.heap H locs (w_X8_ends G a_t a_t_s a_t_image a_t_mind a_t_aside a_t_text a_t_read a_t_comes a_t_begins a_t_latest a_t_move a_t_sort a_t_items a_t_cell a_t_carried t_isKept t_work t_kind t_letters t_at t_fault t_back t_waits t_miles t_loads t_bestRound t_bestPlace t_bestAdds t_regret t_z t_s t_mind t_comes t_begins t_move)) (hl : lv_has ls 3 [(0, .ref a_t)]) : W p l e rm_X8_ends s m args below meth c H locs 0 0 (QI G below args s A r (w_X8_ends G a_t a_t_s a_t_image a_t_mind a_t_aside a_t_text a_t_read a_t_comes a_t_begins a_t_latest a_t_move a_t_sort a_t_items a_t_cell a_t_carried t_isKept z_t_work t_kind t_letters t_at t_fault z_t_back z_t_waits t_miles z_t_loads z_t_bestRound z_t_bestPlace z_t_bestAdds z_t_regret t_z z_t_s z_t_mind z_t_comes z_t_begins z_t_move)) (F0 m 101 ls [.int y0]) := by
  unfold b_X8_ends_101 at hf
  have hx := C.1
  have hb := C.2.1
  have hown := C.2.2.2.2.1
  have hts := C.2.2.2.2.2.1
  have hN := C.2.2.2.2.2.2.2.2.2.2
  refine lv_istore_n (pc := 101) (lv' := [(2, .int y0), (0, .ref a_t)]) hx hb dX8_ends_101 rfl hl (by decide) rfl (fun ls hl => ?_)
  refine lv_aload_n (pc := 102) hx hb dX8_ends_102 rfl (lv_at hl 1 rfl) ?_
  refine x_get (pc := 103) (ci := 8) (T := TX8) (v := .ref a_t_mind) C S 0 rfl rfl inlX8 2 (by decide) rfl qf_8_18 rfl dX8_ends_103 ?_
  refine lv_aload_n (pc := 106) hx hb dX8_ends_106 rfl (lv_at hl 1 rfl) ?_
  refine x_get (pc := 107) (ci := 8) (T := TX8) (v := .ref a_t_s) C S 0 rfl rfl inlX8 0 (by decide) rfl qf_8_11 rfl dX8_ends_107 ?_
  obtain ⟨o1_t_s, hq1, hf⟩ := bd_e hf
  refine x_sV (pc := 110) (As := [.ref a_t_mind, .ref a_t_s]) (rest := []) (isC := [2, 1]) (ws' := (w_X8_ends G a_t a_t_s a_t_image a_t_mind a_t_aside a_t_text a_t_read a_t_comes a_t_begins a_t_latest a_t_move a_t_sort a_t_items a_t_cell a_t_carried t_isKept t_work t_kind t_letters t_at t_fault t_back t_waits t_miles t_loads t_bestRound t_bestPlace t_bestAdds t_regret t_z o1_t_s t_mind t_comes t_begins t_move)) C S (c_X8_copies l G a_t_mind a_t_s 258 258 t_mind t_s o1_t_s hq1) (u_X8_ends_X8_copies_269 hts) rfl (by decide +kernel) [none, some 1, some 0, none, none, none] (by decide +kernel) rfl rfl rfl hl.1 rfl (Nat.le_of_ble_eq_true rfl) dX8_ends_110 (fun H locs S => ?_)
  refine lv_iload_n (pc := 113) hx hb dX8_ends_113 rfl (lv_at hl 0 rfl) ?_
  cases hf
  exact x_iret (pc := 114) C S dX8_ends_114
set_option maxRecDepth 100000 in
set_option maxHeartbeats 4000000 in
theorem k_X8_ends_41 (C : Cx p s m args meth c cX8_ends (some .int) 3 RX8 G A) (t_isKept : Int32) (t_work : Int32) (t_kind : Int32) (t_letters : Int32) (t_at : Int32) (t_fault : Int32) (t_back : Int32) (t_waits : Int32) (t_miles : Int32) (t_loads : Int32) (t_bestRound : Int32) (t_bestPlace : Int32) (t_bestAdds : Int32) (t_regret : Int32) (t_z : Int32) (t_s : Nat → Int32) (t_mind : Nat → Int32) (t_comes : Nat → Int32) (t_begins : Nat → Int32) (t_move : Nat → Int32) (x1 : Int32) (x2 : Int32) (k41 : Int32 × (Nat → Int32) × (Nat → Int32) × (Nat → Int32) × Int32 × Int32 × Int32 × Int32 × Int32 × Int32 × Int32 × (Nat → Int32) → Option (Int32 × (Nat → Int32) × (Nat → Int32) × Int32 × (Nat → Int32) × (Nat → Int32) × Int32 × Int32 × Int32 × Int32 × Int32 × Int32 × Int32 × (Nat → Int32))) (hk41 : ∀ {H : Heap} {locs : List Loc} {ls : Array Slot} (x2' : Int32) (t_s' : Nat → Int32) (t_comes' : Nat → Int32) (t_begins' : Nat → Int32) (t_back' : Int32) (t_waits' : Int32) (t_loads' : Int32) (t_bestRound' : Int32) (t_bestPlace' : Int32) (t_bestAdds' : Int32) (t_regret' : Int32) (t_move' : Nat → Int32), k41 (x2', t_s', t_comes', t_begins', t_back', t_waits', t_loads', t_bestRound', t_bestPlace', t_bestAdds', t_regret', t_move') = some (r, z_t_s, z_t_mind, z_t_work, z_t_comes, z_t_begins, z_t_back, z_t_waits, z_t_loads, z_t_bestRound, z_t_bestPlace, z_t_bestAdds, z_t_regret, z_t_move) → St G A s.heap H locs (w_X8_ends G a_t a_t_s a_t_image a_t_mind a_t_aside a_t_text a_t_read a_t_comes a_t_begins a_t_latest a_t_move a_t_sort a_t_items a_t_cell a_t_carried t_isKept t_work t_kind t_letters t_at t_fault t_back' t_waits' t_miles t_loads' t_bestRound' t_bestPlace' t_bestAdds' t_regret' t_z t_s' t_mind t_comes' t_begins' t_move') → lv_has ls 3 [(0, .ref a_t), (1, .int x1), (2, .int x2')] → W p l e rm_X8_ends s m args below meth c H locs 0 0 (QI G below args s A r (w_X8_ends G a_t a_t_s a_t_image a_t_mind a_t_aside a_t_text a_t_read a_t_comes a_t_begins a_t_latest a_t_move a_t_sort a_t_items a_t_cell a_t_carried t_isKept z_t_work t_kind t_letters t_at t_fault z_t_back z_t_waits t_miles z_t_loads z_t_bestRound z_t_bestPlace z_t_bestAdds z_t_regret t_z z_t_s z_t_mind z_t_comes z_t_begins z_t_move)) (F0 m 41 ls [])) {H : Heap} {locs : List Loc} {ls : Array Slot} (hf : b_X8_ends_41 x1 t_mind t_work k41 x2 t_s t_comes t_begins t_back t_waits t_loads t_bestRound t_bestPlace t_bestAdds t_regret t_move = some (r, z_t_s, z_t_mind, z_t_work, z_t_comes, z_t_begins, z_t_back, z_t_waits, z_t_loads, z_t_bestRound, z_t_bestPlace, z_t_bestAdds, z_t_regret, z_t_move)) (S : St G A s.heap H locs (w_X8_ends G a_t a_t_s a_t_image a_t_mind a_t_aside a_t_text a_t_read a_t_comes a_t_begins a_t_latest a_t_move a_t_sort a_t_items a_t_cell a_t_carried t_isKept t_work t_kind t_letters t_at t_fault t_back t_waits t_miles t_loads t_bestRound t_bestPlace t_bestAdds t_regret t_z t_s t_mind t_comes t_begins t_move)) (hl : lv_has ls 3 [(0, .ref a_t), (1, .int x1), (2, .int x2)]) : W p l e rm_X8_ends s m args below meth c H locs 0 0 (QI G below args s A r (w_X8_ends G a_t a_t_s a_t_image a_t_mind a_t_aside a_t_text a_t_read a_t_comes a_t_begins a_t_latest a_t_move a_t_sort a_t_items a_t_cell a_t_carried t_isKept z_t_work t_kind t_letters t_at t_fault z_t_back z_t_waits t_miles z_t_loads z_t_bestRound z_t_bestPlace z_t_bestAdds z_t_regret t_z z_t_s z_t_mind z_t_comes z_t_begins z_t_move)) (F0 m 41 ls []) := by
  unfold b_X8_ends_41 at hf
  have hx := C.1
  have hb := C.2.1
  have hown := C.2.2.2.2.1
  have hts := C.2.2.2.2.2.1
  have hN := C.2.2.2.2.2.2.2.2.2.2
  refine lv_iload_n (pc := 41) hx hb dX8_ends_41 rfl (lv_at hl 2 rfl) ?_
  refine lv_aload_n (pc := 42) hx hb dX8_ends_42 rfl (lv_at hl 0 rfl) ?_
  refine x_get (pc := 43) (ci := 8) (T := TX8) (v := .ref a_t_s) C S 0 rfl rfl inlX8 0 (by decide) rfl qf_8_11 rfl dX8_ends_43 ?_
  refine lv_bipush (pc := 46) hx hb dX8_ends_46 bc_6 ?_
  refine x_iald (pc := 48) C S 1 rfl (vp_in_iff.mpr (by decide)) dX8_ends_48 ?_
  refine lv_icmp_ge (tgt := 86) (pc := 49) hx hb dX8_ends_49 (by decide) (fun c1 => ?_) (fun c1 => ?_)
  · have hf := ifp c1 hf
    refine lv_iload_n (pc := 86) hx hb dX8_ends_86 rfl (lv_at hl 1 rfl) ?_
    refine lv_if_ne (tgt := 97) (pc := 87) hx hb dX8_ends_87 (by decide) (fun c2 => ?_) (fun c2 => ?_)
    · have hf := ifn c2 hf
      refine lv_aload_n (pc := 97) hx hb dX8_ends_97 rfl (lv_at hl 0 rfl) ?_
      obtain ⟨r3, hq3, hf⟩ := bd_e hf
      refine x_vI (pc := 98) (As := []) (rest := []) (isC := [0, 1]) (ws' := (w_X8_ends G a_t a_t_s a_t_image a_t_mind a_t_aside a_t_text a_t_read a_t_comes a_t_begins a_t_latest a_t_move a_t_sort a_t_items a_t_cell a_t_carried t_isKept t_work t_kind t_letters t_at t_fault t_back t_waits t_miles t_loads t_bestRound t_bestPlace t_bestAdds t_regret t_z t_s t_mind t_comes t_begins t_move)) C S (c_X8_inNone l G a_t a_t_s a_t_image a_t_mind a_t_aside a_t_text a_t_read a_t_comes a_t_begins a_t_latest a_t_move a_t_sort a_t_items a_t_cell a_t_carried t_isKept t_work t_kind t_letters t_at t_fault t_back t_waits t_miles t_loads t_bestRound t_bestPlace t_bestAdds t_regret t_z t_s r3 hq3) (u_X8_ends_X8_inNone_242 hts) (ci := 8) rfl 0 rfl rfl (by decide +kernel) [some 0, some 1, none, none, none, none] (by decide +kernel) rfl rfl rfl hl.1 rfl (Nat.le_of_ble_eq_true rfl) dX8_ends_98 (fun H locs S => ?_)
      exact k_X8_ends_101 C (t_isKept) (t_work) (t_kind) (t_letters) (t_at) (t_fault) (t_back) (t_waits) (t_miles) (t_loads) (t_bestRound) (t_bestPlace) (t_bestAdds) (t_regret) (t_z) (t_s) (t_mind) (t_comes) (t_begins) (t_move) (r3) hf S (lv_sub hl [0] rfl)
    · have hf := ifp c2 hf
      refine lv_aload_n (pc := 90) hx hb dX8_ends_90 rfl (lv_at hl 0 rfl) ?_
      obtain ⟨r4, hq4, hf⟩ := bd_e hf
      refine x_vI (pc := 91) (As := []) (rest := []) (isC := [0, 1]) (ws' := (w_X8_ends G a_t a_t_s a_t_image a_t_mind a_t_aside a_t_text a_t_read a_t_comes a_t_begins a_t_latest a_t_move a_t_sort a_t_items a_t_cell a_t_carried t_isKept t_work t_kind t_letters t_at t_fault t_back t_waits t_miles t_loads t_bestRound t_bestPlace t_bestAdds t_regret t_z t_s t_mind t_comes t_begins t_move)) C S (c_X8_cost l G a_t a_t_s a_t_image a_t_mind a_t_aside a_t_text a_t_read a_t_comes a_t_begins a_t_latest a_t_move a_t_sort a_t_items a_t_cell a_t_carried t_isKept t_work t_kind t_letters t_at t_fault t_back t_waits t_miles t_loads t_bestRound t_bestPlace t_bestAdds t_regret t_z t_s r4 hq4) (u_X8_ends_X8_cost_177 hts) (ci := 8) rfl 0 rfl rfl (by decide +kernel) [some 0, some 1, none, none, none, none] (by decide +kernel) rfl rfl rfl hl.1 rfl (Nat.le_of_ble_eq_true rfl) dX8_ends_91 (fun H locs S => ?_)
      refine lv_goto (tgt := 101) (pc := 94) hx hb dX8_ends_94 (by decide) ?_
      exact k_X8_ends_101 C (t_isKept) (t_work) (t_kind) (t_letters) (t_at) (t_fault) (t_back) (t_waits) (t_miles) (t_loads) (t_bestRound) (t_bestPlace) (t_bestAdds) (t_regret) (t_z) (t_s) (t_mind) (t_comes) (t_begins) (t_move) (r4) hf S (lv_sub hl [0] rfl)
  · have hf := ifn c1 hf
    refine lv_aload_n (pc := 52) hx hb dX8_ends_52 rfl (lv_at hl 0 rfl) ?_
    refine lv_aload_n (pc := 53) hx hb dX8_ends_53 rfl (lv_at hl 0 rfl) ?_
    refine x_get (pc := 54) (ci := 8) (T := TX8) (v := .ref a_t_s) C S 0 rfl rfl inlX8 0 (by decide) rfl qf_8_11 rfl dX8_ends_54 ?_
    refine lv_bipush (pc := 57) hx hb dX8_ends_57 bc_18 ?_
    refine lv_iconst (pc := 59) hx hb dX8_ends_59 ic_2 ?_
    refine lv_iload_n (pc := 60) hx hb dX8_ends_60 rfl (lv_at hl 2 rfl) ?_
    refine lv_imul (pc := 61) hx hb dX8_ends_61 ?_
    refine lv_iadd (pc := 62) hx hb dX8_ends_62 ?_
    obtain ⟨hv5, hf⟩ := gI_e hf
    refine x_iald (pc := 63) C S 1 rfl hv5 dX8_ends_63 ?_
    refine lv_aload_n (pc := 64) hx hb dX8_ends_64 rfl (lv_at hl 0 rfl) ?_
    refine x_get (pc := 65) (ci := 8) (T := TX8) (v := .ref a_t_s) C S 0 rfl rfl inlX8 0 (by decide) rfl qf_8_11 rfl dX8_ends_65 ?_
    refine lv_bipush (pc := 68) hx hb dX8_ends_68 bc_18 ?_
    refine lv_iconst (pc := 70) hx hb dX8_ends_70 ic_2 ?_
    refine lv_iload_n (pc := 71) hx hb dX8_ends_71 rfl (lv_at hl 2 rfl) ?_
    refine lv_imul (pc := 72) hx hb dX8_ends_72 ?_
    refine lv_iadd (pc := 73) hx hb dX8_ends_73 ?_
    refine lv_iconst (pc := 74) hx hb dX8_ends_74 ic_1 ?_
    refine lv_iadd (pc := 75) hx hb dX8_ends_75 ?_
    obtain ⟨hv6, hf⟩ := gI_e hf
    refine x_iald (pc := 76) C S 1 rfl hv6 dX8_ends_76 ?_
    obtain ⟨⟨o7_t_s, o7_t_comes, o7_t_begins, o7_t_back, o7_t_waits, o7_t_loads, o7_t_bestRound, o7_t_bestPlace, o7_t_bestAdds, o7_t_regret, o7_t_move⟩, hq7, hf⟩ := bd_e hf
    refine x_vV (pc := 77) (As := [.int (t_s ((18 : Int32) + ((2 : Int32) * x2)).toNatClampNeg), .int (t_s (((18 : Int32) + ((2 : Int32) * x2)) + (1 : Int32)).toNatClampNeg)]) (rest := []) (isC := [0, 1, 3, 4, 5]) (ws' := (w_X8_ends G a_t a_t_s a_t_image a_t_mind a_t_aside a_t_text a_t_read a_t_comes a_t_begins a_t_latest a_t_move a_t_sort a_t_items a_t_cell a_t_carried t_isKept t_work t_kind t_letters t_at t_fault o7_t_back o7_t_waits t_miles o7_t_loads o7_t_bestRound o7_t_bestPlace o7_t_bestAdds o7_t_regret t_z o7_t_s t_mind o7_t_comes o7_t_begins o7_t_move)) C S (c_X8_goes l G a_t a_t_s a_t_image a_t_mind a_t_aside a_t_text a_t_read a_t_comes a_t_begins a_t_latest a_t_move a_t_sort a_t_items a_t_cell a_t_carried t_isKept t_work t_kind t_letters t_at t_fault t_back t_waits t_miles t_loads t_bestRound t_bestPlace t_bestAdds t_regret t_z t_s t_comes t_begins t_move (t_s ((18 : Int32) + ((2 : Int32) * x2)).toNatClampNeg) (t_s (((18 : Int32) + ((2 : Int32) * x2)) + (1 : Int32)).toNatClampNeg) o7_t_s o7_t_comes o7_t_begins o7_t_back o7_t_waits o7_t_loads o7_t_bestRound o7_t_bestPlace o7_t_bestAdds o7_t_regret o7_t_move hq7) (u_X8_ends_X8_goes_282 hts) (ci := 8) rfl 0 rfl rfl (by decide +kernel) [some 0, some 1, none, some 2, some 3, some 4] (by decide +kernel) rfl rfl rfl hl.1 rfl (Nat.le_of_ble_eq_true rfl) dX8_ends_77 (fun H locs S => ?_)
    refine lv_iinc (pc := 80) (v := (x2 + (1 : Int32))) (lv' := [(2, .int (x2 + (1 : Int32))), (0, .ref a_t), (1, .int x1)]) hx hb dX8_ends_80 hl (k := 2) rfl (congrArg (fun z => x2 + z) ic_1) (by decide) rfl (fun ls hl => ?_)
    refine lv_goto (tgt := 41) (pc := 83) hx hb dX8_ends_83 (by decide) ?_
    exact hk41 ((x2 + (1 : Int32))) (o7_t_s) (o7_t_comes) (o7_t_begins) (o7_t_back) (o7_t_waits) (o7_t_loads) (o7_t_bestRound) (o7_t_bestPlace) (o7_t_bestAdds) (o7_t_regret) (o7_t_move)  hf S (lv_sub hl [1, 2, 0] rfl)
set_option maxRecDepth 100000 in
set_option maxHeartbeats 4000000 in
theorem h_X8_ends_41 (C : Cx p s m args meth c cX8_ends (some .int) 3 RX8 G A) (t_isKept : Int32) (t_work : Int32) (t_kind : Int32) (t_letters : Int32) (t_at : Int32) (t_fault : Int32) (t_miles : Int32) (t_z : Int32) (t_mind : Nat → Int32) (x1 : Int32) : ∀ (n : Nat) (x2 : Int32) (t_s : Nat → Int32) (t_comes : Nat → Int32) (t_begins : Nat → Int32) (t_back : Int32) (t_waits : Int32) (t_loads : Int32) (t_bestRound : Int32) (t_bestPlace : Int32) (t_bestAdds : Int32) (t_regret : Int32) (t_move : Nat → Int32) {H : Heap} {locs : List Loc} {ls : Array Slot} (hf : lp (fun k x => b_X8_ends_41 x1 t_mind t_work k x.1 x.2.1 x.2.2.1 x.2.2.2.1 x.2.2.2.2.1 x.2.2.2.2.2.1 x.2.2.2.2.2.2.1 x.2.2.2.2.2.2.2.1 x.2.2.2.2.2.2.2.2.1 x.2.2.2.2.2.2.2.2.2.1 x.2.2.2.2.2.2.2.2.2.2.1 x.2.2.2.2.2.2.2.2.2.2.2) n (x2, t_s, t_comes, t_begins, t_back, t_waits, t_loads, t_bestRound, t_bestPlace, t_bestAdds, t_regret, t_move) = some (r, z_t_s, z_t_mind, z_t_work, z_t_comes, z_t_begins, z_t_back, z_t_waits, z_t_loads, z_t_bestRound, z_t_bestPlace, z_t_bestAdds, z_t_regret, z_t_move)) (S : St G A s.heap H locs (w_X8_ends G a_t a_t_s a_t_image a_t_mind a_t_aside a_t_text a_t_read a_t_comes a_t_begins a_t_latest a_t_move a_t_sort a_t_items a_t_cell a_t_carried t_isKept t_work t_kind t_letters t_at t_fault t_back t_waits t_miles t_loads t_bestRound t_bestPlace t_bestAdds t_regret t_z t_s t_mind t_comes t_begins t_move)) (hl : lv_has ls 3 [(0, .ref a_t), (1, .int x1), (2, .int x2)]), W p l e rm_X8_ends s m args below meth c H locs 0 0 (QI G below args s A r (w_X8_ends G a_t a_t_s a_t_image a_t_mind a_t_aside a_t_text a_t_read a_t_comes a_t_begins a_t_latest a_t_move a_t_sort a_t_items a_t_cell a_t_carried t_isKept z_t_work t_kind t_letters t_at t_fault z_t_back z_t_waits t_miles z_t_loads z_t_bestRound z_t_bestPlace z_t_bestAdds z_t_regret t_z z_t_s z_t_mind z_t_comes z_t_begins z_t_move)) (F0 m 41 ls []) := by
  intro n
  induction n with
  | zero =>
    intro x2 t_s t_comes t_begins t_back t_waits t_loads t_bestRound t_bestPlace t_bestAdds t_regret t_move  H locs ls hf
    cases hf
  | succ n ih =>
    intro x2 t_s t_comes t_begins t_back t_waits t_loads t_bestRound t_bestPlace t_bestAdds t_regret t_move  H locs ls hf S hl
    have hf : b_X8_ends_41 x1 t_mind t_work (lp (fun k x => b_X8_ends_41 x1 t_mind t_work k x.1 x.2.1 x.2.2.1 x.2.2.2.1 x.2.2.2.2.1 x.2.2.2.2.2.1 x.2.2.2.2.2.2.1 x.2.2.2.2.2.2.2.1 x.2.2.2.2.2.2.2.2.1 x.2.2.2.2.2.2.2.2.2.1 x.2.2.2.2.2.2.2.2.2.2.1 x.2.2.2.2.2.2.2.2.2.2.2) n) x2 t_s t_comes t_begins t_back t_waits t_loads t_bestRound t_bestPlace t_bestAdds t_regret t_move = some (r, z_t_s, z_t_mind, z_t_work, z_t_comes, z_t_begins, z_t_back, z_t_waits, z_t_loads, z_t_bestRound, z_t_bestPlace, z_t_bestAdds, z_t_regret, z_t_move) := hf
    exact k_X8_ends_41 C t_isKept t_work t_kind t_letters t_at t_fault t_back t_waits t_miles t_loads t_bestRound t_bestPlace t_bestAdds t_regret t_z t_s t_mind t_comes t_begins t_move x1 x2  (lp (fun k x => b_X8_ends_41 x1 t_mind t_work k x.1 x.2.1 x.2.2.1 x.2.2.2.1 x.2.2.2.2.1 x.2.2.2.2.2.1 x.2.2.2.2.2.2.1 x.2.2.2.2.2.2.2.1 x.2.2.2.2.2.2.2.2.1 x.2.2.2.2.2.2.2.2.2.1 x.2.2.2.2.2.2.2.2.2.2.1 x.2.2.2.2.2.2.2.2.2.2.2) n) (fun x2' t_s' t_comes' t_begins' t_back' t_waits' t_loads' t_bestRound' t_bestPlace' t_bestAdds' t_regret' t_move'  h S hl => ih x2' t_s' t_comes' t_begins' t_back' t_waits' t_loads' t_bestRound' t_bestPlace' t_bestAdds' t_regret' t_move'  h S hl) hf S hl
set_option maxRecDepth 100000 in
set_option maxHeartbeats 4000000 in
theorem c_X8_ends (l : Launch) (G : GE) (a_t a_t_s a_t_image a_t_mind a_t_aside a_t_text a_t_read a_t_comes a_t_begins a_t_latest a_t_move a_t_sort a_t_items a_t_cell a_t_carried : Nat) (t_isKept : Int32) (t_work : Int32) (t_kind : Int32) (t_letters : Int32) (t_at : Int32) (t_fault : Int32) (t_back : Int32) (t_waits : Int32) (t_miles : Int32) (t_loads : Int32) (t_bestRound : Int32) (t_bestPlace : Int32) (t_bestAdds : Int32) (t_regret : Int32) (t_z : Int32) (t_s : Nat → Int32) (t_mind : Nat → Int32) (t_comes : Nat → Int32) (t_begins : Nat → Int32) (t_move : Nat → Int32) (x1 : Int32) (r : Int32) (z_t_s : Nat → Int32) (z_t_mind : Nat → Int32) (z_t_work : Int32) (z_t_comes : Nat → Int32) (z_t_begins : Nat → Int32) (z_t_back : Int32) (z_t_waits : Int32) (z_t_loads : Int32) (z_t_bestRound : Int32) (z_t_bestPlace : Int32) (z_t_bestAdds : Int32) (z_t_regret : Int32) (z_t_move : Nat → Int32) (hf : f_X8_ends t_s t_mind t_work t_comes t_begins t_back t_waits t_loads t_bestRound t_bestPlace t_bestAdds t_regret t_move x1 = some (r, z_t_s, z_t_mind, z_t_work, z_t_comes, z_t_begins, z_t_back, z_t_waits, z_t_loads, z_t_bestRound, z_t_bestPlace, z_t_bestAdds, z_t_regret, z_t_move)) : CI l G yX8_ends kw_X8_ends rm_X8_ends [.ref a_t, .int x1] (w_X8_ends G a_t a_t_s a_t_image a_t_mind a_t_aside a_t_text a_t_read a_t_comes a_t_begins a_t_latest a_t_move a_t_sort a_t_items a_t_cell a_t_carried t_isKept t_work t_kind t_letters t_at t_fault t_back t_waits t_miles t_loads t_bestRound t_bestPlace t_bestAdds t_regret t_z t_s t_mind t_comes t_begins t_move) r (w_X8_ends G a_t a_t_s a_t_image a_t_mind a_t_aside a_t_text a_t_read a_t_comes a_t_begins a_t_latest a_t_move a_t_sort a_t_items a_t_cell a_t_carried t_isKept z_t_work t_kind t_letters t_at t_fault z_t_back z_t_waits t_miles z_t_loads z_t_bestRound z_t_bestPlace z_t_bestAdds z_t_regret t_z z_t_s z_t_mind z_t_comes z_t_begins z_t_move) := by
  refine en_I (cc := cX8_ends) (maxL := 3) (ret := (some .int)) (by decide +kernel) (Nat.le_of_ble_eq_true rfl) ?_
  intro p e s m args below meth c A ls C S hl
  have hl : lv_has ls 3 [(0, .ref a_t), (1, .int x1)] := hl
  have C : Cx p s m args meth c cX8_ends (some .int) 3 RX8 G A := C
  unfold f_X8_ends at hf
  have hx := C.1
  have hb := C.2.1
  have hown := C.2.2.2.2.1
  have hts := C.2.2.2.2.2.1
  have hN := C.2.2.2.2.2.2.2.2.2.2
  refine lv_iload_n (pc := 0) hx hb dX8_ends_0 rfl (lv_at hl 1 rfl) ?_
  refine lv_iconst (pc := 1) hx hb dX8_ends_1 ic_0 ?_
  refine lv_iconst (pc := 2) hx hb dX8_ends_2 ic_1 ?_
  obtain ⟨r1, hq1, hf⟩ := bd_e hf
  refine x_sI (pc := 3) (As := [.int x1, .int (0 : Int32), .int (1 : Int32)]) (rest := []) (isC := []) (ws' := (w_X8_ends G a_t a_t_s a_t_image a_t_mind a_t_aside a_t_text a_t_read a_t_comes a_t_begins a_t_latest a_t_move a_t_sort a_t_items a_t_cell a_t_carried t_isKept t_work t_kind t_letters t_at t_fault t_back t_waits t_miles t_loads t_bestRound t_bestPlace t_bestAdds t_regret t_z t_s t_mind t_comes t_begins t_move)) C S (c_X8_isIn l G x1 (0 : Int32) (1 : Int32) r1 hq1) (u_X8_ends_X8_isIn_55 hts) rfl (by decide +kernel) [none, none, none, none, none, none] (by decide +kernel) rfl rfl rfl hl.1 rfl (Nat.le_of_ble_eq_true rfl) dX8_ends_3 (fun H locs S => ?_)
  refine lv_if_ne (tgt := 11) (pc := 6) hx hb dX8_ends_6 (by decide) (fun c2 => ?_) (fun c2 => ?_)
  · have hf := ifn c2 hf
    refine lv_aload_n (pc := 11) hx hb dX8_ends_11 rfl (lv_at hl 0 rfl) ?_
    refine lv_aload_n (pc := 12) hx hb dX8_ends_12 rfl (lv_at hl 0 rfl) ?_
    refine x_get (pc := 13) (ci := 8) (T := TX8) (v := .ref a_t_s) C S 0 rfl rfl inlX8 0 (by decide) rfl qf_8_11 rfl dX8_ends_13 ?_
    refine lv_bipush (pc := 16) hx hb dX8_ends_16 bc_6 ?_
    refine x_iald (pc := 18) C S 1 rfl (vp_in_iff.mpr (by decide)) dX8_ends_18 ?_
    obtain ⟨⟨r3, o3_t_work⟩, hq3, hf⟩ := bd_e hf
    refine x_vI (pc := 19) (As := [.int (t_s (6 : Int32).toNatClampNeg)]) (rest := []) (isC := [0]) (ws' := (w_X8_ends G a_t a_t_s a_t_image a_t_mind a_t_aside a_t_text a_t_read a_t_comes a_t_begins a_t_latest a_t_move a_t_sort a_t_items a_t_cell a_t_carried t_isKept o3_t_work t_kind t_letters t_at t_fault t_back t_waits t_miles t_loads t_bestRound t_bestPlace t_bestAdds t_regret t_z t_s t_mind t_comes t_begins t_move)) C S (c_X8_works l G a_t a_t_s a_t_image a_t_mind a_t_aside a_t_text a_t_read a_t_comes a_t_begins a_t_latest a_t_move a_t_sort a_t_items a_t_cell a_t_carried t_isKept t_work t_kind t_letters t_at t_fault t_back t_waits t_miles t_loads t_bestRound t_bestPlace t_bestAdds t_regret t_z (t_s (6 : Int32).toNatClampNeg) r3 o3_t_work hq3) (u_X8_ends_X8_works_208 hts) (ci := 8) rfl 0 rfl rfl (by decide +kernel) [some 0, none, none, none, none, none] (by decide +kernel) rfl rfl rfl hl.1 rfl (Nat.le_of_ble_eq_true rfl) dX8_ends_19 (fun H locs S => ?_)
    refine lv_if_ne (tgt := 28) (pc := 22) hx hb dX8_ends_22 (by decide) (fun c4 => ?_) (fun c4 => ?_)
    · have hf := ifn c4 hf
      refine lv_aload_n (pc := 28) hx hb dX8_ends_28 rfl (lv_at hl 0 rfl) ?_
      refine x_get (pc := 29) (ci := 8) (T := TX8) (v := .ref a_t_s) C S 0 rfl rfl inlX8 0 (by decide) rfl qf_8_11 rfl dX8_ends_29 ?_
      refine lv_aload_n (pc := 32) hx hb dX8_ends_32 rfl (lv_at hl 0 rfl) ?_
      refine x_get (pc := 33) (ci := 8) (T := TX8) (v := .ref a_t_mind) C S 0 rfl rfl inlX8 2 (by decide) rfl qf_8_18 rfl dX8_ends_33 ?_
      obtain ⟨o5_t_mind, hq5, hf⟩ := bd_e hf
      refine x_sV (pc := 36) (As := [.ref a_t_s, .ref a_t_mind]) (rest := []) (isC := [1, 2]) (ws' := (w_X8_ends G a_t a_t_s a_t_image a_t_mind a_t_aside a_t_text a_t_read a_t_comes a_t_begins a_t_latest a_t_move a_t_sort a_t_items a_t_cell a_t_carried t_isKept o3_t_work t_kind t_letters t_at t_fault t_back t_waits t_miles t_loads t_bestRound t_bestPlace t_bestAdds t_regret t_z t_s o5_t_mind t_comes t_begins t_move)) C S (c_X8_copies l G a_t_s a_t_mind 258 258 t_s t_mind o5_t_mind hq5) (u_X8_ends_X8_copies_269 hts) rfl (by decide +kernel) [none, some 0, some 1, none, none, none] (by decide +kernel) rfl rfl rfl hl.1 rfl (Nat.le_of_ble_eq_true rfl) dX8_ends_36 (fun H locs S => ?_)
      refine lv_iconst (pc := 39) hx hb dX8_ends_39 ic_0 ?_
      refine lv_istore_n (pc := 40) (lv' := [(2, .int (0 : Int32)), (0, .ref a_t), (1, .int x1)]) hx hb dX8_ends_40 rfl hl (by decide) rfl (fun ls hl => ?_)
      exact h_X8_ends_41 C (t_isKept) (o3_t_work) (t_kind) (t_letters) (t_at) (t_fault) (t_miles) (t_z) (o5_t_mind) (x1) fu ((0 : Int32)) (t_s) (t_comes) (t_begins) (t_back) (t_waits) (t_loads) (t_bestRound) (t_bestPlace) (t_bestAdds) (t_regret) (t_move) hf S (lv_sub hl [1, 2, 0] rfl)
    · have hf := ifp c4 hf
      refine lv_bipush (pc := 25) hx hb dX8_ends_25 bc_m4 ?_
      cases hf
      exact x_iret (pc := 27) C S dX8_ends_27
  · have hf := ifp c2 hf
    refine lv_iconst (pc := 9) hx hb dX8_ends_9 ic_m1 ?_
    cases hf
    exact x_iret (pc := 10) C S dX8_ends_10
end

abbrev rm_X8_far : Room := { frames := 2, cells := 0, slots := 0, locals := 50 }
abbrev kw_X8_far : Cond := .code yX8_far cX8_far 5 (some .int)
abbrev w_X8_far (G : GE) (a_t a_t_s a_t_image a_t_mind a_t_aside a_t_text a_t_read a_t_comes a_t_begins a_t_latest a_t_move a_t_sort a_t_items a_t_cell a_t_carried : Nat) (t_isKept : Int32) (t_work : Int32) (t_kind : Int32) (t_letters : Int32) (t_at : Int32) (t_fault : Int32) (t_back : Int32) (t_waits : Int32) (t_miles : Int32) (t_loads : Int32) (t_bestRound : Int32) (t_bestPlace : Int32) (t_bestAdds : Int32) (t_regret : Int32) (t_z : Int32) (t_s : Nat → Int32) : va_W := [(a_t, ob 8 [.ref a_t_s, .ref a_t_image, .ref a_t_mind, .ref a_t_aside, .int t_isKept, .int t_work, .int t_kind, .ref a_t_text, .ref a_t_read, .int t_letters, .int t_at, .int t_fault, .ref a_t_comes, .ref a_t_begins, .ref a_t_latest, .int t_back, .int t_waits, .int t_miles, .int t_loads, .int t_bestRound, .int t_bestPlace, .int t_bestAdds, .int t_regret, .ref a_t_move, .ref a_t_sort, .ref a_t_items, .ref a_t_cell, .ref a_t_carried, .int t_z]), (a_t_s, aI G 258 t_s)]
theorem u_X8_far_X8_isTold_114 {s : State} {args : Array Value} (hts : ∀ w ∈ WU, w.before args s = true) : CallB rm_X8_far s args RX8 114 yX8_isTold cX8_isTold 2 (some .boolean) (kw_X8_isTold :: WU) rm_X8_isTold 0 0 2 ∧ (Cond.static yX8_isTold).before args s = true := va_cwS 2 hts (gS qm_8_114 qs_X8_isTold qn_8 qc_X8_isTold) rfl rfl rfl (by decide +kernel) ⟨Nat.le_of_ble_eq_true rfl, Nat.le_of_ble_eq_true rfl⟩
theorem u_X8_far_X8_apart_81 {s : State} {args : Array Value} (hts : ∀ w ∈ WU, w.before args s = true) : CallW rm_X8_far s args RX8 RX8 81 yX8_apart cX8_apart 7 (some .int) (kw_X8_apart :: WU) rm_X8_apart 0 0 4 := cwV 4 hts (gV qm_8_81 qi_X8_apart ql_X8_apart qn_8 qc_X8_apart) rfl rfl rfl (by decide +kernel) ⟨Nat.le_of_ble_eq_true rfl, Nat.le_of_ble_eq_true rfl⟩
section
variable {p : Program} {l : Launch} {e : Env} {s : State} {m : MethodId} {args : Array Value} {below : List Frame} {meth : Method} {c : Code} {A : Nat → Prop} {G : GE} {a_t a_t_s a_t_image a_t_mind a_t_aside a_t_text a_t_read a_t_comes a_t_begins a_t_latest a_t_move a_t_sort a_t_items a_t_cell a_t_carried : Nat} {r : Int32}
set_option maxRecDepth 100000 in
set_option maxHeartbeats 4000000 in
theorem c_X8_far (l : Launch) (G : GE) (a_t a_t_s a_t_image a_t_mind a_t_aside a_t_text a_t_read a_t_comes a_t_begins a_t_latest a_t_move a_t_sort a_t_items a_t_cell a_t_carried : Nat) (t_isKept : Int32) (t_work : Int32) (t_kind : Int32) (t_letters : Int32) (t_at : Int32) (t_fault : Int32) (t_back : Int32) (t_waits : Int32) (t_miles : Int32) (t_loads : Int32) (t_bestRound : Int32) (t_bestPlace : Int32) (t_bestAdds : Int32) (t_regret : Int32) (t_z : Int32) (t_s : Nat → Int32) (x1 : Int32) (x2 : Int32) (x3 : Int32) (x4 : Int32) (r : Int32) (hf : f_X8_far t_s x1 x2 x3 x4 = some r) : CI l G yX8_far kw_X8_far rm_X8_far [.ref a_t, .int x1, .int x2, .int x3, .int x4] (w_X8_far G a_t a_t_s a_t_image a_t_mind a_t_aside a_t_text a_t_read a_t_comes a_t_begins a_t_latest a_t_move a_t_sort a_t_items a_t_cell a_t_carried t_isKept t_work t_kind t_letters t_at t_fault t_back t_waits t_miles t_loads t_bestRound t_bestPlace t_bestAdds t_regret t_z t_s) r (w_X8_far G a_t a_t_s a_t_image a_t_mind a_t_aside a_t_text a_t_read a_t_comes a_t_begins a_t_latest a_t_move a_t_sort a_t_items a_t_cell a_t_carried t_isKept t_work t_kind t_letters t_at t_fault t_back t_waits t_miles t_loads t_bestRound t_bestPlace t_bestAdds t_regret t_z t_s) := by
  refine en_I (cc := cX8_far) (maxL := 5) (ret := (some .int)) (by decide +kernel) (Nat.le_of_ble_eq_true rfl) ?_
  intro p e s m args below meth c A ls C S hl
  have hl : lv_has ls 5 [(0, .ref a_t), (1, .int x1), (2, .int x2), (3, .int x3), (4, .int x4)] := hl
  have C : Cx p s m args meth c cX8_far (some .int) 5 RX8 G A := C
  unfold f_X8_far at hf
  have hx := C.1
  have hb := C.2.1
  have hown := C.2.2.2.2.1
  have hts := C.2.2.2.2.2.1
  have hN := C.2.2.2.2.2.2.2.2.2.2
  refine lv_iconst (pc := 0) hx hb dX8_far_0 ic_0 ?_
  refine lv_iload_n (pc := 1) hx hb dX8_far_1 rfl (lv_at hl 1 rfl) ?_
  obtain ⟨r1, hq1, hf⟩ := bd_e hf
  refine x_sI (pc := 2) (As := [.int (0 : Int32), .int x1]) (rest := []) (isC := []) (ws' := (w_X8_far G a_t a_t_s a_t_image a_t_mind a_t_aside a_t_text a_t_read a_t_comes a_t_begins a_t_latest a_t_move a_t_sort a_t_items a_t_cell a_t_carried t_isKept t_work t_kind t_letters t_at t_fault t_back t_waits t_miles t_loads t_bestRound t_bestPlace t_bestAdds t_regret t_z t_s)) C S (c_X8_isTold l G (0 : Int32) x1 r1 hq1) (u_X8_far_X8_isTold_114 hts) rfl (by decide +kernel) [none, none] (by decide +kernel) rfl rfl rfl hl.1 rfl (Nat.le_of_ble_eq_true rfl) dX8_far_2 (fun H locs S => ?_)
  refine lv_if_eq (tgt := 45) (pc := 5) hx hb dX8_far_5 (by decide) (fun c2 => ?_) (fun c2 => ?_)
  · have hf := ifp c2 hf
    refine lv_bipush (pc := 45) hx hb dX8_far_45 bc_m2 ?_
    cases hf
    exact x_iret (pc := 47) C S dX8_far_47
  · have hf := ifn c2 hf
    refine lv_iconst (pc := 8) hx hb dX8_far_8 ic_1 ?_
    refine lv_iload_n (pc := 9) hx hb dX8_far_9 rfl (lv_at hl 2 rfl) ?_
    obtain ⟨r3, hq3, hf⟩ := bd_e hf
    refine x_sI (pc := 10) (As := [.int (1 : Int32), .int x2]) (rest := []) (isC := []) (ws' := (w_X8_far G a_t a_t_s a_t_image a_t_mind a_t_aside a_t_text a_t_read a_t_comes a_t_begins a_t_latest a_t_move a_t_sort a_t_items a_t_cell a_t_carried t_isKept t_work t_kind t_letters t_at t_fault t_back t_waits t_miles t_loads t_bestRound t_bestPlace t_bestAdds t_regret t_z t_s)) C S (c_X8_isTold l G (1 : Int32) x2 r3 hq3) (u_X8_far_X8_isTold_114 hts) rfl (by decide +kernel) [none, none] (by decide +kernel) rfl rfl rfl hl.1 rfl (Nat.le_of_ble_eq_true rfl) dX8_far_10 (fun H locs S => ?_)
    refine lv_if_eq (tgt := 45) (pc := 13) hx hb dX8_far_13 (by decide) (fun c4 => ?_) (fun c4 => ?_)
    · have hf := ifp c4 hf
      refine lv_bipush (pc := 45) hx hb dX8_far_45 bc_m2 ?_
      cases hf
      exact x_iret (pc := 47) C S dX8_far_47
    · have hf := ifn c4 hf
      refine lv_iconst (pc := 16) hx hb dX8_far_16 ic_0 ?_
      refine lv_iload_n (pc := 17) hx hb dX8_far_17 rfl (lv_at hl 3 rfl) ?_
      obtain ⟨r5, hq5, hf⟩ := bd_e hf
      refine x_sI (pc := 18) (As := [.int (0 : Int32), .int x3]) (rest := []) (isC := []) (ws' := (w_X8_far G a_t a_t_s a_t_image a_t_mind a_t_aside a_t_text a_t_read a_t_comes a_t_begins a_t_latest a_t_move a_t_sort a_t_items a_t_cell a_t_carried t_isKept t_work t_kind t_letters t_at t_fault t_back t_waits t_miles t_loads t_bestRound t_bestPlace t_bestAdds t_regret t_z t_s)) C S (c_X8_isTold l G (0 : Int32) x3 r5 hq5) (u_X8_far_X8_isTold_114 hts) rfl (by decide +kernel) [none, none] (by decide +kernel) rfl rfl rfl hl.1 rfl (Nat.le_of_ble_eq_true rfl) dX8_far_18 (fun H locs S => ?_)
      refine lv_if_eq (tgt := 45) (pc := 21) hx hb dX8_far_21 (by decide) (fun c6 => ?_) (fun c6 => ?_)
      · have hf := ifp c6 hf
        refine lv_bipush (pc := 45) hx hb dX8_far_45 bc_m2 ?_
        cases hf
        exact x_iret (pc := 47) C S dX8_far_47
      · have hf := ifn c6 hf
        refine lv_iconst (pc := 24) hx hb dX8_far_24 ic_1 ?_
        refine lv_iload (pc := 25) hx hb dX8_far_25 (lv_at hl 4 rfl) ?_
        obtain ⟨r7, hq7, hf⟩ := bd_e hf
        refine x_sI (pc := 27) (As := [.int (1 : Int32), .int x4]) (rest := []) (isC := []) (ws' := (w_X8_far G a_t a_t_s a_t_image a_t_mind a_t_aside a_t_text a_t_read a_t_comes a_t_begins a_t_latest a_t_move a_t_sort a_t_items a_t_cell a_t_carried t_isKept t_work t_kind t_letters t_at t_fault t_back t_waits t_miles t_loads t_bestRound t_bestPlace t_bestAdds t_regret t_z t_s)) C S (c_X8_isTold l G (1 : Int32) x4 r7 hq7) (u_X8_far_X8_isTold_114 hts) rfl (by decide +kernel) [none, none] (by decide +kernel) rfl rfl rfl hl.1 rfl (Nat.le_of_ble_eq_true rfl) dX8_far_27 (fun H locs S => ?_)
        refine lv_if_eq (tgt := 45) (pc := 30) hx hb dX8_far_30 (by decide) (fun c8 => ?_) (fun c8 => ?_)
        · have hf := ifp c8 hf
          refine lv_bipush (pc := 45) hx hb dX8_far_45 bc_m2 ?_
          cases hf
          exact x_iret (pc := 47) C S dX8_far_47
        · have hf := ifn c8 hf
          refine lv_aload_n (pc := 33) hx hb dX8_far_33 rfl (lv_at hl 0 rfl) ?_
          refine lv_iload_n (pc := 34) hx hb dX8_far_34 rfl (lv_at hl 1 rfl) ?_
          refine lv_iload_n (pc := 35) hx hb dX8_far_35 rfl (lv_at hl 2 rfl) ?_
          refine lv_iload_n (pc := 36) hx hb dX8_far_36 rfl (lv_at hl 3 rfl) ?_
          refine lv_iload (pc := 37) hx hb dX8_far_37 (lv_at hl 4 rfl) ?_
          obtain ⟨r9, hq9, hf⟩ := bd_e hf
          refine x_vI (pc := 39) (As := [.int x1, .int x2, .int x3, .int x4]) (rest := []) (isC := [0, 1]) (ws' := (w_X8_far G a_t a_t_s a_t_image a_t_mind a_t_aside a_t_text a_t_read a_t_comes a_t_begins a_t_latest a_t_move a_t_sort a_t_items a_t_cell a_t_carried t_isKept t_work t_kind t_letters t_at t_fault t_back t_waits t_miles t_loads t_bestRound t_bestPlace t_bestAdds t_regret t_z t_s)) C S (c_X8_apart l G a_t a_t_s a_t_image a_t_mind a_t_aside a_t_text a_t_read a_t_comes a_t_begins a_t_latest a_t_move a_t_sort a_t_items a_t_cell a_t_carried t_isKept t_work t_kind t_letters t_at t_fault t_back t_waits t_miles t_loads t_bestRound t_bestPlace t_bestAdds t_regret t_z t_s x1 x2 x3 x4 r9 hq9) (u_X8_far_X8_apart_81 hts) (ci := 8) rfl 0 rfl rfl (by decide +kernel) [some 0, some 1] (by decide +kernel) rfl rfl rfl hl.1 rfl (Nat.le_of_ble_eq_true rfl) dX8_far_39 (fun H locs S => ?_)
          refine lv_goto (tgt := 47) (pc := 42) hx hb dX8_far_42 (by decide) ?_
          cases hf
          exact x_iret (pc := 47) C S dX8_far_47
end

abbrev rm_X8_feed : Room := { frames := 1, cells := 0, slots := 0, locals := 22 }
abbrev kw_X8_feed : Cond := .code yX8_feed cX8_feed 2 (some .int)
abbrev w_X8_feed (G : GE) (a_t a_t_s a_t_image a_t_mind a_t_aside a_t_text a_t_read a_t_comes a_t_begins a_t_latest a_t_move a_t_sort a_t_items a_t_cell a_t_carried : Nat) (t_isKept : Int32) (t_work : Int32) (t_kind : Int32) (t_letters : Int32) (t_at : Int32) (t_fault : Int32) (t_back : Int32) (t_waits : Int32) (t_miles : Int32) (t_loads : Int32) (t_bestRound : Int32) (t_bestPlace : Int32) (t_bestAdds : Int32) (t_regret : Int32) (t_z : Int32) (t_text : Nat → Int32) : va_W := [(a_t, ob 8 [.ref a_t_s, .ref a_t_image, .ref a_t_mind, .ref a_t_aside, .int t_isKept, .int t_work, .int t_kind, .ref a_t_text, .ref a_t_read, .int t_letters, .int t_at, .int t_fault, .ref a_t_comes, .ref a_t_begins, .ref a_t_latest, .int t_back, .int t_waits, .int t_miles, .int t_loads, .int t_bestRound, .int t_bestPlace, .int t_bestAdds, .int t_regret, .ref a_t_move, .ref a_t_sort, .ref a_t_items, .ref a_t_cell, .ref a_t_carried, .int t_z]), (a_t_text, aI G 100 t_text)]
theorem u_X8_feed_X8_isIn_55 {s : State} {args : Array Value} (hts : ∀ w ∈ WU, w.before args s = true) : CallB rm_X8_feed s args RX8 55 yX8_isIn cX8_isIn 3 (some .boolean) (kw_X8_isIn :: WU) rm_X8_isIn 0 0 3 ∧ (Cond.static yX8_isIn).before args s = true := va_cwS 3 hts (gS qm_8_55 qs_X8_isIn qn_8 qc_X8_isIn) rfl rfl rfl (by decide +kernel) ⟨Nat.le_of_ble_eq_true rfl, Nat.le_of_ble_eq_true rfl⟩
section
variable {p : Program} {l : Launch} {e : Env} {s : State} {m : MethodId} {args : Array Value} {below : List Frame} {meth : Method} {c : Code} {A : Nat → Prop} {G : GE} {a_t a_t_s a_t_image a_t_mind a_t_aside a_t_text a_t_read a_t_comes a_t_begins a_t_latest a_t_move a_t_sort a_t_items a_t_cell a_t_carried : Nat} {r : Int32} {z_t_text : Nat → Int32} {z_t_letters : Int32}
set_option maxRecDepth 100000 in
set_option maxHeartbeats 4000000 in
theorem c_X8_feed (l : Launch) (G : GE) (a_t a_t_s a_t_image a_t_mind a_t_aside a_t_text a_t_read a_t_comes a_t_begins a_t_latest a_t_move a_t_sort a_t_items a_t_cell a_t_carried : Nat) (t_isKept : Int32) (t_work : Int32) (t_kind : Int32) (t_letters : Int32) (t_at : Int32) (t_fault : Int32) (t_back : Int32) (t_waits : Int32) (t_miles : Int32) (t_loads : Int32) (t_bestRound : Int32) (t_bestPlace : Int32) (t_bestAdds : Int32) (t_regret : Int32) (t_z : Int32) (t_text : Nat → Int32) (x1 : Int32) (r : Int32) (z_t_text : Nat → Int32) (z_t_letters : Int32) (hf : f_X8_feed t_text t_letters x1 = some (r, z_t_text, z_t_letters)) : CI l G yX8_feed kw_X8_feed rm_X8_feed [.ref a_t, .int x1] (w_X8_feed G a_t a_t_s a_t_image a_t_mind a_t_aside a_t_text a_t_read a_t_comes a_t_begins a_t_latest a_t_move a_t_sort a_t_items a_t_cell a_t_carried t_isKept t_work t_kind t_letters t_at t_fault t_back t_waits t_miles t_loads t_bestRound t_bestPlace t_bestAdds t_regret t_z t_text) r (w_X8_feed G a_t a_t_s a_t_image a_t_mind a_t_aside a_t_text a_t_read a_t_comes a_t_begins a_t_latest a_t_move a_t_sort a_t_items a_t_cell a_t_carried t_isKept t_work t_kind z_t_letters t_at t_fault t_back t_waits t_miles t_loads t_bestRound t_bestPlace t_bestAdds t_regret t_z z_t_text) := by
  refine en_I (cc := cX8_feed) (maxL := 2) (ret := (some .int)) (by decide +kernel) (Nat.le_of_ble_eq_true rfl) ?_
  intro p e s m args below meth c A ls C S hl
  have hl : lv_has ls 2 [(0, .ref a_t), (1, .int x1)] := hl
  have C : Cx p s m args meth c cX8_feed (some .int) 2 RX8 G A := C
  unfold f_X8_feed at hf
  have hx := C.1
  have hb := C.2.1
  have hown := C.2.2.2.2.1
  have hts := C.2.2.2.2.2.1
  have hN := C.2.2.2.2.2.2.2.2.2.2
  refine lv_iload_n (pc := 0) hx hb dX8_feed_0 rfl (lv_at hl 1 rfl) ?_
  refine lv_iconst (pc := 1) hx hb dX8_feed_1 ic_0 ?_
  refine lv_bipush (pc := 2) hx hb dX8_feed_2 bc_127 ?_
  obtain ⟨r1, hq1, hf⟩ := bd_e hf
  refine x_sI (pc := 4) (As := [.int x1, .int (0 : Int32), .int (127 : Int32)]) (rest := []) (isC := []) (ws' := (w_X8_feed G a_t a_t_s a_t_image a_t_mind a_t_aside a_t_text a_t_read a_t_comes a_t_begins a_t_latest a_t_move a_t_sort a_t_items a_t_cell a_t_carried t_isKept t_work t_kind t_letters t_at t_fault t_back t_waits t_miles t_loads t_bestRound t_bestPlace t_bestAdds t_regret t_z t_text)) C S (c_X8_isIn l G x1 (0 : Int32) (127 : Int32) r1 hq1) (u_X8_feed_X8_isIn_55 hts) rfl (by decide +kernel) [none, none] (by decide +kernel) rfl rfl rfl hl.1 rfl (Nat.le_of_ble_eq_true rfl) dX8_feed_4 (fun H locs S => ?_)
  refine lv_if_ne (tgt := 13) (pc := 7) hx hb dX8_feed_7 (by decide) (fun c2 => ?_) (fun c2 => ?_)
  · have hf := ifn c2 hf
    refine lv_aload_n (pc := 13) hx hb dX8_feed_13 rfl (lv_at hl 0 rfl) ?_
    refine x_get (pc := 14) (ci := 8) (T := TX8) (v := .int t_letters) C S 0 rfl rfl inlX8 9 (by decide) rfl qf_8_121 rfl dX8_feed_14 ?_
    refine lv_bipush (pc := 17) hx hb dX8_feed_17 bc_100 ?_
    refine lv_icmp_ne (tgt := 25) (pc := 19) hx hb dX8_feed_19 (by decide) (fun c3 => ?_) (fun c3 => ?_)
    · have hf := ifn c3 hf
      refine lv_aload_n (pc := 25) hx hb dX8_feed_25 rfl (lv_at hl 0 rfl) ?_
      refine x_get (pc := 26) (ci := 8) (T := TX8) (v := .ref a_t_text) C S 0 rfl rfl inlX8 7 (by decide) rfl qf_8_24 rfl dX8_feed_26 ?_
      refine lv_aload_n (pc := 29) hx hb dX8_feed_29 rfl (lv_at hl 0 rfl) ?_
      refine x_get (pc := 30) (ci := 8) (T := TX8) (v := .int t_letters) C S 0 rfl rfl inlX8 9 (by decide) rfl qf_8_121 rfl dX8_feed_30 ?_
      refine lv_iload_n (pc := 33) hx hb dX8_feed_33 rfl (lv_at hl 1 rfl) ?_
      obtain ⟨hv4, hf⟩ := gI_e hf
      refine x_iast (pc := 34) (ws' := (w_X8_feed G a_t a_t_s a_t_image a_t_mind a_t_aside a_t_text a_t_read a_t_comes a_t_begins a_t_latest a_t_move a_t_sort a_t_items a_t_cell a_t_carried t_isKept t_work t_kind t_letters t_at t_fault t_back t_waits t_miles t_loads t_bestRound t_bestPlace t_bestAdds t_regret t_z (upd t_text t_letters.toNatClampNeg x1))) C S 1 rfl hv4 rfl dX8_feed_34 (fun H locs S => ?_)
      refine lv_aload_n (pc := 35) hx hb dX8_feed_35 rfl (lv_at hl 0 rfl) ?_
      refine lv_dup (pc := 36) hx hb dX8_feed_36 rfl ?_
      refine x_get (pc := 37) (ci := 8) (T := TX8) (v := .int t_letters) C S 0 rfl rfl inlX8 9 (by decide) rfl qf_8_121 rfl dX8_feed_37 ?_
      refine lv_iconst (pc := 40) hx hb dX8_feed_40 ic_1 ?_
      refine lv_iadd (pc := 41) hx hb dX8_feed_41 ?_
      refine x_put (pc := 42) (ci := 8) (T := TX8) (ws' := (w_X8_feed G a_t a_t_s a_t_image a_t_mind a_t_aside a_t_text a_t_read a_t_comes a_t_begins a_t_latest a_t_move a_t_sort a_t_items a_t_cell a_t_carried t_isKept t_work t_kind (t_letters + (1 : Int32)) t_at t_fault t_back t_waits t_miles t_loads t_bestRound t_bestPlace t_bestAdds t_regret t_z (upd t_text t_letters.toNatClampNeg x1))) C S tyX8 tyX8_ok nmX8 0 rfl rfl inlX8 9 (by decide) rfl qf_8_121 rfl rfl rfl rfl (Nat.le_of_ble_eq_true rfl) rfl dX8_feed_42 (fun H locs S => ?_)
      refine lv_aload_n (pc := 45) hx hb dX8_feed_45 rfl (lv_at hl 0 rfl) ?_
      refine x_get (pc := 46) (ci := 8) (T := TX8) (v := .int (t_letters + (1 : Int32))) C S 0 rfl rfl inlX8 9 (by decide) rfl qf_8_121 rfl dX8_feed_46 ?_
      cases hf
      exact x_iret (pc := 49) C S dX8_feed_49
    · have hf := ifp c3 hf
      refine lv_bipush (pc := 22) hx hb dX8_feed_22 bc_m4 ?_
      cases hf
      exact x_iret (pc := 24) C S dX8_feed_24
  · have hf := ifp c2 hf
    refine lv_bipush (pc := 10) hx hb dX8_feed_10 bc_m2 ?_
    cases hf
    exact x_iret (pc := 12) C S dX8_feed_12
end

abbrev rm_X8_fill : Room := { frames := 9, cells := 0, slots := 0, locals := 221 }
abbrev kw_X8_fill : Cond := .code yX8_fill cX8_fill 1 (some .int)
abbrev w_X8_fill (G : GE) (a_t a_t_s a_t_image a_t_mind a_t_aside a_t_text a_t_read a_t_comes a_t_begins a_t_latest a_t_move a_t_sort a_t_items a_t_cell a_t_carried : Nat) (t_isKept : Int32) (t_work : Int32) (t_kind : Int32) (t_letters : Int32) (t_at : Int32) (t_fault : Int32) (t_back : Int32) (t_waits : Int32) (t_miles : Int32) (t_loads : Int32) (t_bestRound : Int32) (t_bestPlace : Int32) (t_bestAdds : Int32) (t_regret : Int32) (t_z : Int32) (t_s : Nat → Int32) (t_comes : Nat → Int32) (t_begins : Nat → Int32) : va_W := [(a_t, ob 8 [.ref a_t_s, .ref a_t_image, .ref a_t_mind, .ref a_t_aside, .int t_isKept, .int t_work, .int t_kind, .ref a_t_text, .ref a_t_read, .int t_letters, .int t_at, .int t_fault, .ref a_t_comes, .ref a_t_begins, .ref a_t_latest, .int t_back, .int t_waits, .int t_miles, .int t_loads, .int t_bestRound, .int t_bestPlace, .int t_bestAdds, .int t_regret, .ref a_t_move, .ref a_t_sort, .ref a_t_items, .ref a_t_cell, .ref a_t_carried, .int t_z]), (a_t_s, aI G 258 t_s), (a_t_comes, aI G 16 t_comes), (a_t_begins, aI G 16 t_begins)]
theorem u_X8_fill_X8_works_208 {s : State} {args : Array Value} (hts : ∀ w ∈ WU, w.before args s = true) : CallW rm_X8_fill s args RX8 RX8 208 yX8_works cX8_works 2 (some .boolean) (kw_X8_works :: WU) rm_X8_works 0 0 1 := cwV 1 hts (gV qm_8_208 qi_X8_works ql_X8_works qn_8 qc_X8_works) rfl rfl rfl (by decide +kernel) ⟨Nat.le_of_ble_eq_true rfl, Nat.le_of_ble_eq_true rfl⟩
theorem u_X8_fill_X8_fills_211 {s : State} {args : Array Value} (hts : ∀ w ∈ WU, w.before args s = true) : CallW rm_X8_fill s args RX8 RX8 211 yX8_fills cX8_fills 8 (some .int) (kw_X8_fills :: WU) rm_X8_fills 0 0 0 := cwV 0 hts (gV qm_8_211 qi_X8_fills ql_X8_fills qn_8 qc_X8_fills) rfl rfl rfl (by decide +kernel) ⟨Nat.le_of_ble_eq_true rfl, Nat.le_of_ble_eq_true rfl⟩
section
variable {p : Program} {l : Launch} {e : Env} {s : State} {m : MethodId} {args : Array Value} {below : List Frame} {meth : Method} {c : Code} {A : Nat → Prop} {G : GE} {a_t a_t_s a_t_image a_t_mind a_t_aside a_t_text a_t_read a_t_comes a_t_begins a_t_latest a_t_move a_t_sort a_t_items a_t_cell a_t_carried : Nat} {r : Int32} {z_t_s : Nat → Int32} {z_t_work : Int32} {z_t_comes : Nat → Int32} {z_t_begins : Nat → Int32} {z_t_back : Int32} {z_t_waits : Int32} {z_t_loads : Int32} {z_t_bestRound : Int32} {z_t_bestPlace : Int32} {z_t_bestAdds : Int32} {z_t_regret : Int32}
set_option maxRecDepth 100000 in
set_option maxHeartbeats 4000000 in
theorem c_X8_fill (l : Launch) (G : GE) (a_t a_t_s a_t_image a_t_mind a_t_aside a_t_text a_t_read a_t_comes a_t_begins a_t_latest a_t_move a_t_sort a_t_items a_t_cell a_t_carried : Nat) (t_isKept : Int32) (t_work : Int32) (t_kind : Int32) (t_letters : Int32) (t_at : Int32) (t_fault : Int32) (t_back : Int32) (t_waits : Int32) (t_miles : Int32) (t_loads : Int32) (t_bestRound : Int32) (t_bestPlace : Int32) (t_bestAdds : Int32) (t_regret : Int32) (t_z : Int32) (t_s : Nat → Int32) (t_comes : Nat → Int32) (t_begins : Nat → Int32) (r : Int32) (z_t_s : Nat → Int32) (z_t_work : Int32) (z_t_comes : Nat → Int32) (z_t_begins : Nat → Int32) (z_t_back : Int32) (z_t_waits : Int32) (z_t_loads : Int32) (z_t_bestRound : Int32) (z_t_bestPlace : Int32) (z_t_bestAdds : Int32) (z_t_regret : Int32) (hf : f_X8_fill t_s t_work t_comes t_begins t_back t_waits t_loads t_bestRound t_bestPlace t_bestAdds t_regret = some (r, z_t_s, z_t_work, z_t_comes, z_t_begins, z_t_back, z_t_waits, z_t_loads, z_t_bestRound, z_t_bestPlace, z_t_bestAdds, z_t_regret)) : CI l G yX8_fill kw_X8_fill rm_X8_fill [.ref a_t] (w_X8_fill G a_t a_t_s a_t_image a_t_mind a_t_aside a_t_text a_t_read a_t_comes a_t_begins a_t_latest a_t_move a_t_sort a_t_items a_t_cell a_t_carried t_isKept t_work t_kind t_letters t_at t_fault t_back t_waits t_miles t_loads t_bestRound t_bestPlace t_bestAdds t_regret t_z t_s t_comes t_begins) r (w_X8_fill G a_t a_t_s a_t_image a_t_mind a_t_aside a_t_text a_t_read a_t_comes a_t_begins a_t_latest a_t_move a_t_sort a_t_items a_t_cell a_t_carried t_isKept z_t_work t_kind t_letters t_at t_fault z_t_back z_t_waits t_miles z_t_loads z_t_bestRound z_t_bestPlace z_t_bestAdds z_t_regret t_z z_t_s z_t_comes z_t_begins) := by
  refine en_I (cc := cX8_fill) (maxL := 1) (ret := (some .int)) (by decide +kernel) (Nat.le_of_ble_eq_true rfl) ?_
  intro p e s m args below meth c A ls C S hl
  have hl : lv_has ls 1 [(0, .ref a_t)] := hl
  have C : Cx p s m args meth c cX8_fill (some .int) 1 RX8 G A := C
  unfold f_X8_fill at hf
  have hx := C.1
  have hb := C.2.1
  have hown := C.2.2.2.2.1
  have hts := C.2.2.2.2.2.1
  have hN := C.2.2.2.2.2.2.2.2.2.2
  refine lv_aload_n (pc := 0) hx hb dX8_fill_0 rfl (lv_at hl 0 rfl) ?_
  refine lv_iconst (pc := 1) hx hb dX8_fill_1 ic_1 ?_
  obtain ⟨⟨r1, o1_t_work⟩, hq1, hf⟩ := bd_e hf
  refine x_vI (pc := 2) (As := [.int (1 : Int32)]) (rest := []) (isC := [0]) (ws' := (w_X8_fill G a_t a_t_s a_t_image a_t_mind a_t_aside a_t_text a_t_read a_t_comes a_t_begins a_t_latest a_t_move a_t_sort a_t_items a_t_cell a_t_carried t_isKept o1_t_work t_kind t_letters t_at t_fault t_back t_waits t_miles t_loads t_bestRound t_bestPlace t_bestAdds t_regret t_z t_s t_comes t_begins)) C S (c_X8_works l G a_t a_t_s a_t_image a_t_mind a_t_aside a_t_text a_t_read a_t_comes a_t_begins a_t_latest a_t_move a_t_sort a_t_items a_t_cell a_t_carried t_isKept t_work t_kind t_letters t_at t_fault t_back t_waits t_miles t_loads t_bestRound t_bestPlace t_bestAdds t_regret t_z (1 : Int32) r1 o1_t_work hq1) (u_X8_fill_X8_works_208 hts) (ci := 8) rfl 0 rfl rfl (by decide +kernel) [some 0, none, none, none] (by decide +kernel) rfl rfl rfl hl.1 rfl (Nat.le_of_ble_eq_true rfl) dX8_fill_2 (fun H locs S => ?_)
  refine lv_if_eq (tgt := 15) (pc := 5) hx hb dX8_fill_5 (by decide) (fun c2 => ?_) (fun c2 => ?_)
  · have hf := ifp c2 hf
    refine lv_bipush (pc := 15) hx hb dX8_fill_15 bc_m4 ?_
    cases hf
    exact x_iret (pc := 17) C S dX8_fill_17
  · have hf := ifn c2 hf
    refine lv_aload_n (pc := 8) hx hb dX8_fill_8 rfl (lv_at hl 0 rfl) ?_
    obtain ⟨⟨r3, o3_t_s, o3_t_comes, o3_t_begins, o3_t_back, o3_t_waits, o3_t_loads, o3_t_bestRound, o3_t_bestPlace, o3_t_bestAdds, o3_t_regret⟩, hq3, hf⟩ := bd_e hf
    refine x_vI (pc := 9) (As := []) (rest := []) (isC := [0, 1, 2, 3]) (ws' := (w_X8_fill G a_t a_t_s a_t_image a_t_mind a_t_aside a_t_text a_t_read a_t_comes a_t_begins a_t_latest a_t_move a_t_sort a_t_items a_t_cell a_t_carried t_isKept o1_t_work t_kind t_letters t_at t_fault o3_t_back o3_t_waits t_miles o3_t_loads o3_t_bestRound o3_t_bestPlace o3_t_bestAdds o3_t_regret t_z o3_t_s o3_t_comes o3_t_begins)) C S (c_X8_fills l G a_t a_t_s a_t_image a_t_mind a_t_aside a_t_text a_t_read a_t_comes a_t_begins a_t_latest a_t_move a_t_sort a_t_items a_t_cell a_t_carried t_isKept o1_t_work t_kind t_letters t_at t_fault t_back t_waits t_miles t_loads t_bestRound t_bestPlace t_bestAdds t_regret t_z t_s t_comes t_begins r3 o3_t_s o3_t_comes o3_t_begins o3_t_back o3_t_waits o3_t_loads o3_t_bestRound o3_t_bestPlace o3_t_bestAdds o3_t_regret hq3) (u_X8_fill_X8_fills_211 hts) (ci := 8) rfl 0 rfl rfl (by decide +kernel) [some 0, some 1, some 2, some 3] (by decide +kernel) rfl rfl rfl hl.1 rfl (Nat.le_of_ble_eq_true rfl) dX8_fill_9 (fun H locs S => ?_)
    refine lv_goto (tgt := 17) (pc := 12) hx hb dX8_fill_12 (by decide) ?_
    cases hf
    exact x_iret (pc := 17) C S dX8_fill_17
end

abbrev rm_X8_isAsSeen : Room := { frames := 5, cells := 0, slots := 0, locals := 120 }
abbrev kw_X8_isAsSeen : Cond := .code yX8_isAsSeen cX8_isAsSeen 4 (some .boolean)
abbrev w_X8_isAsSeen (G : GE) (a_t a_t_s a_t_image a_t_mind a_t_aside a_t_text a_t_read a_t_comes a_t_begins a_t_latest a_t_move a_t_sort a_t_items a_t_cell a_t_carried : Nat) (t_isKept : Int32) (t_work : Int32) (t_kind : Int32) (t_letters : Int32) (t_at : Int32) (t_fault : Int32) (t_back : Int32) (t_waits : Int32) (t_miles : Int32) (t_loads : Int32) (t_bestRound : Int32) (t_bestPlace : Int32) (t_bestAdds : Int32) (t_regret : Int32) (t_z : Int32) (t_s : Nat → Int32) (t_comes : Nat → Int32) (t_begins : Nat → Int32) : va_W := [(a_t, ob 8 [.ref a_t_s, .ref a_t_image, .ref a_t_mind, .ref a_t_aside, .int t_isKept, .int t_work, .int t_kind, .ref a_t_text, .ref a_t_read, .int t_letters, .int t_at, .int t_fault, .ref a_t_comes, .ref a_t_begins, .ref a_t_latest, .int t_back, .int t_waits, .int t_miles, .int t_loads, .int t_bestRound, .int t_bestPlace, .int t_bestAdds, .int t_regret, .ref a_t_move, .ref a_t_sort, .ref a_t_items, .ref a_t_cell, .ref a_t_carried, .int t_z]), (a_t_s, aI G 258 t_s), (a_t_comes, aI G 16 t_comes), (a_t_begins, aI G 16 t_begins)]
theorem u_X8_isAsSeen_X8_holds_104 {s : State} {args : Array Value} (hts : ∀ w ∈ WU, w.before args s = true) : CallW rm_X8_isAsSeen s args RX8 RX8 104 yX8_holds cX8_holds 2 (some .boolean) (kw_X8_holds :: WU) rm_X8_holds 0 0 1 := cwV 1 hts (gV qm_8_104 qi_X8_holds ql_X8_holds qn_8 qc_X8_holds) rfl rfl rfl (by decide +kernel) ⟨Nat.le_of_ble_eq_true rfl, Nat.le_of_ble_eq_true rfl⟩
theorem u_X8_isAsSeen_X8_placeIn_66 {s : State} {args : Array Value} (hts : ∀ w ∈ WU, w.before args s = true) : CallW rm_X8_isAsSeen s args RX8 RX8 66 yX8_placeIn cX8_placeIn 4 (some .int) (kw_X8_placeIn :: WU) rm_X8_placeIn 0 0 2 := cwV 2 hts (gV qm_8_66 qi_X8_placeIn ql_X8_placeIn qn_8 qc_X8_placeIn) rfl rfl rfl (by decide +kernel) ⟨Nat.le_of_ble_eq_true rfl, Nat.le_of_ble_eq_true rfl⟩
section
variable {p : Program} {l : Launch} {e : Env} {s : State} {m : MethodId} {args : Array Value} {below : List Frame} {meth : Method} {c : Code} {A : Nat → Prop} {G : GE} {a_t a_t_s a_t_image a_t_mind a_t_aside a_t_text a_t_read a_t_comes a_t_begins a_t_latest a_t_move a_t_sort a_t_items a_t_cell a_t_carried : Nat} {r : Int32} {z_t_comes : Nat → Int32} {z_t_begins : Nat → Int32} {z_t_back : Int32} {z_t_waits : Int32} {z_t_loads : Int32}
set_option maxRecDepth 100000 in
set_option maxHeartbeats 4000000 in
theorem k_X8_isAsSeen_12 (C : Cx p s m args meth c cX8_isAsSeen (some .boolean) 4 RX8 G A) (t_isKept : Int32) (t_work : Int32) (t_kind : Int32) (t_letters : Int32) (t_at : Int32) (t_fault : Int32) (t_back : Int32) (t_waits : Int32) (t_miles : Int32) (t_loads : Int32) (t_bestRound : Int32) (t_bestPlace : Int32) (t_bestAdds : Int32) (t_regret : Int32) (t_z : Int32) (t_s : Nat → Int32) (t_comes : Nat → Int32) (t_begins : Nat → Int32) (x1 : Int32) (x2 : Int32) (k12 : Int32 → Option (Int32 × (Nat → Int32) × (Nat → Int32) × Int32 × Int32 × Int32)) (hk12 : ∀ {H : Heap} {locs : List Loc} {ls : Array Slot} (x2' : Int32), k12 x2' = some (r, z_t_comes, z_t_begins, z_t_back, z_t_waits, z_t_loads) → St G A s.heap H locs (w_X8_isAsSeen G a_t a_t_s a_t_image a_t_mind a_t_aside a_t_text a_t_read a_t_comes a_t_begins a_t_latest a_t_move a_t_sort a_t_items a_t_cell a_t_carried t_isKept t_work t_kind t_letters t_at t_fault t_back t_waits t_miles t_loads t_bestRound t_bestPlace t_bestAdds t_regret t_z t_s t_comes t_begins) → lv_has ls 4 [(0, .ref a_t), (1, .int x1), (2, .int x2')] → W p l e rm_X8_isAsSeen s m args below meth c H locs 0 0 (QI G below args s A r (w_X8_isAsSeen G a_t a_t_s a_t_image a_t_mind a_t_aside a_t_text a_t_read a_t_comes a_t_begins a_t_latest a_t_move a_t_sort a_t_items a_t_cell a_t_carried t_isKept t_work t_kind t_letters t_at t_fault z_t_back z_t_waits t_miles z_t_loads t_bestRound t_bestPlace t_bestAdds t_regret t_z t_s z_t_comes z_t_begins)) (F0 m 12 ls [])) {H : Heap} {locs : List Loc} {ls : Array Slot} (hf : b_X8_isAsSeen_12 x1 t_s t_comes t_begins t_back t_waits t_loads k12 x2 = some (r, z_t_comes, z_t_begins, z_t_back, z_t_waits, z_t_loads)) (S : St G A s.heap H locs (w_X8_isAsSeen G a_t a_t_s a_t_image a_t_mind a_t_aside a_t_text a_t_read a_t_comes a_t_begins a_t_latest a_t_move a_t_sort a_t_items a_t_cell a_t_carried t_isKept t_work t_kind t_letters t_at t_fault t_back t_waits t_miles t_loads t_bestRound t_bestPlace t_bestAdds t_regret t_z t_s t_comes t_begins)) (hl : lv_has ls 4 [(0, .ref a_t), (1, .int x1), (2, .int x2)]) : W p l e rm_X8_isAsSeen s m args below meth c H locs 0 0 (QI G below args s A r (w_X8_isAsSeen G a_t a_t_s a_t_image a_t_mind a_t_aside a_t_text a_t_read a_t_comes a_t_begins a_t_latest a_t_move a_t_sort a_t_items a_t_cell a_t_carried t_isKept t_work t_kind t_letters t_at t_fault z_t_back z_t_waits t_miles z_t_loads t_bestRound t_bestPlace t_bestAdds t_regret t_z t_s z_t_comes z_t_begins)) (F0 m 12 ls []) := by
  unfold b_X8_isAsSeen_12 at hf
  have hx := C.1
  have hb := C.2.1
  have hown := C.2.2.2.2.1
  have hts := C.2.2.2.2.2.1
  have hN := C.2.2.2.2.2.2.2.2.2.2
  refine lv_iload_n (pc := 12) hx hb dX8_isAsSeen_12 rfl (lv_at hl 2 rfl) ?_
  refine lv_aload_n (pc := 13) hx hb dX8_isAsSeen_13 rfl (lv_at hl 0 rfl) ?_
  refine x_get (pc := 14) (ci := 8) (T := TX8) (v := .ref a_t_s) C S 0 rfl rfl inlX8 0 (by decide) rfl qf_8_11 rfl dX8_isAsSeen_14 ?_
  refine lv_iconst (pc := 17) hx hb dX8_isAsSeen_17 ic_5 ?_
  refine x_iald (pc := 18) C S 1 rfl (vp_in_iff.mpr (by decide)) dX8_isAsSeen_18 ?_
  refine lv_icmp_ge (tgt := 73) (pc := 19) hx hb dX8_isAsSeen_19 (by decide) (fun c1 => ?_) (fun c1 => ?_)
  · have hf := ifp c1 hf
    refine lv_iconst (pc := 73) hx hb dX8_isAsSeen_73 ic_1 ?_
    cases hf
    exact x_zret (pc := 74) (by decide) C S dX8_isAsSeen_74
  · have hf := ifn c1 hf
    refine lv_aload_n (pc := 22) hx hb dX8_isAsSeen_22 rfl (lv_at hl 0 rfl) ?_
    refine lv_iload_n (pc := 23) hx hb dX8_isAsSeen_23 rfl (lv_at hl 1 rfl) ?_
    refine lv_aload_n (pc := 24) hx hb dX8_isAsSeen_24 rfl (lv_at hl 0 rfl) ?_
    refine x_get (pc := 25) (ci := 8) (T := TX8) (v := .ref a_t_s) C S 0 rfl rfl inlX8 0 (by decide) rfl qf_8_11 rfl dX8_isAsSeen_25 ?_
    refine lv_bipush (pc := 28) hx hb dX8_isAsSeen_28 bc_8 ?_
    refine lv_iconst (pc := 30) hx hb dX8_isAsSeen_30 ic_2 ?_
    refine lv_iload_n (pc := 31) hx hb dX8_isAsSeen_31 rfl (lv_at hl 2 rfl) ?_
    refine lv_imul (pc := 32) hx hb dX8_isAsSeen_32 ?_
    refine lv_iadd (pc := 33) hx hb dX8_isAsSeen_33 ?_
    obtain ⟨hv2, hf⟩ := gI_e hf
    refine x_iald (pc := 34) C S 1 rfl hv2 dX8_isAsSeen_34 ?_
    obtain ⟨r3, hq3, hf⟩ := bd_e hf
    refine x_vI (pc := 35) (As := [.int x1, .int (t_s ((8 : Int32) + ((2 : Int32) * x2)).toNatClampNeg)]) (rest := []) (isC := [0, 1]) (ws' := (w_X8_isAsSeen G a_t a_t_s a_t_image a_t_mind a_t_aside a_t_text a_t_read a_t_comes a_t_begins a_t_latest a_t_move a_t_sort a_t_items a_t_cell a_t_carried t_isKept t_work t_kind t_letters t_at t_fault t_back t_waits t_miles t_loads t_bestRound t_bestPlace t_bestAdds t_regret t_z t_s t_comes t_begins)) C S (c_X8_placeIn l G a_t a_t_s a_t_image a_t_mind a_t_aside a_t_text a_t_read a_t_comes a_t_begins a_t_latest a_t_move a_t_sort a_t_items a_t_cell a_t_carried t_isKept t_work t_kind t_letters t_at t_fault t_back t_waits t_miles t_loads t_bestRound t_bestPlace t_bestAdds t_regret t_z t_s x1 (t_s ((8 : Int32) + ((2 : Int32) * x2)).toNatClampNeg) r3 hq3) (u_X8_isAsSeen_X8_placeIn_66 hts) (ci := 8) rfl 0 rfl rfl (by decide +kernel) [some 0, some 1, none, none] (by decide +kernel) rfl rfl rfl hl.1 rfl (Nat.le_of_ble_eq_true rfl) dX8_isAsSeen_35 (fun H locs S => ?_)
    refine lv_istore_n (pc := 38) (lv' := [(3, .int r3), (0, .ref a_t), (1, .int x1), (2, .int x2)]) hx hb dX8_isAsSeen_38 rfl hl (by decide) rfl (fun ls hl => ?_)
    refine lv_iload_n (pc := 39) hx hb dX8_isAsSeen_39 rfl (lv_at hl 0 rfl) ?_
    refine lv_if_lt (tgt := 67) (pc := 40) hx hb dX8_isAsSeen_40 (by decide) (fun c4 => ?_) (fun c4 => ?_)
    · have hf := ifp c4 hf
      refine lv_iinc (pc := 67) (v := (x2 + (1 : Int32))) (lv' := [(2, .int (x2 + (1 : Int32))), (3, .int r3), (0, .ref a_t), (1, .int x1)]) hx hb dX8_isAsSeen_67 hl (k := 3) rfl (congrArg (fun z => x2 + z) ic_1) (by decide) rfl (fun ls hl => ?_)
      refine lv_goto (tgt := 12) (pc := 70) hx hb dX8_isAsSeen_70 (by decide) ?_
      exact hk12 ((x2 + (1 : Int32)))  hf S (lv_sub hl [2, 3, 0] rfl)
    · have hf := ifn c4 hf
      refine lv_aload_n (pc := 43) hx hb dX8_isAsSeen_43 rfl (lv_at hl 1 rfl) ?_
      refine x_get (pc := 44) (ci := 8) (T := TX8) (v := .ref a_t_begins) C S 0 rfl rfl inlX8 13 (by decide) rfl qf_8_33 rfl dX8_isAsSeen_44 ?_
      refine lv_iload_n (pc := 47) hx hb dX8_isAsSeen_47 rfl (lv_at hl 0 rfl) ?_
      obtain ⟨hv5, hf⟩ := gI_e hf
      refine x_iald (pc := 48) C S 3 rfl hv5 dX8_isAsSeen_48 ?_
      refine lv_aload_n (pc := 49) hx hb dX8_isAsSeen_49 rfl (lv_at hl 1 rfl) ?_
      refine x_get (pc := 50) (ci := 8) (T := TX8) (v := .ref a_t_s) C S 0 rfl rfl inlX8 0 (by decide) rfl qf_8_11 rfl dX8_isAsSeen_50 ?_
      refine lv_bipush (pc := 53) hx hb dX8_isAsSeen_53 bc_8 ?_
      refine lv_iconst (pc := 55) hx hb dX8_isAsSeen_55 ic_2 ?_
      refine lv_iload_n (pc := 56) hx hb dX8_isAsSeen_56 rfl (lv_at hl 3 rfl) ?_
      refine lv_imul (pc := 57) hx hb dX8_isAsSeen_57 ?_
      refine lv_iadd (pc := 58) hx hb dX8_isAsSeen_58 ?_
      refine lv_iconst (pc := 59) hx hb dX8_isAsSeen_59 ic_1 ?_
      refine lv_iadd (pc := 60) hx hb dX8_isAsSeen_60 ?_
      obtain ⟨hv6, hf⟩ := gI_e hf
      refine x_iald (pc := 61) C S 1 rfl hv6 dX8_isAsSeen_61 ?_
      refine lv_icmp_eq (tgt := 67) (pc := 62) hx hb dX8_isAsSeen_62 (by decide) (fun c7 => ?_) (fun c7 => ?_)
      · have hf := ifp c7 hf
        refine lv_iinc (pc := 67) (v := (x2 + (1 : Int32))) (lv' := [(2, .int (x2 + (1 : Int32))), (3, .int r3), (0, .ref a_t), (1, .int x1)]) hx hb dX8_isAsSeen_67 hl (k := 3) rfl (congrArg (fun z => x2 + z) ic_1) (by decide) rfl (fun ls hl => ?_)
        refine lv_goto (tgt := 12) (pc := 70) hx hb dX8_isAsSeen_70 (by decide) ?_
        exact hk12 ((x2 + (1 : Int32)))  hf S (lv_sub hl [2, 3, 0] rfl)
      · have hf := ifn c7 hf
        refine lv_iconst (pc := 65) hx hb dX8_isAsSeen_65 ic_0 ?_
        cases hf
        exact x_zret (pc := 66) (by decide) C S dX8_isAsSeen_66
set_option maxRecDepth 100000 in
set_option maxHeartbeats 4000000 in
theorem h_X8_isAsSeen_12 (C : Cx p s m args meth c cX8_isAsSeen (some .boolean) 4 RX8 G A) (t_isKept : Int32) (t_work : Int32) (t_kind : Int32) (t_letters : Int32) (t_at : Int32) (t_fault : Int32) (t_back : Int32) (t_waits : Int32) (t_miles : Int32) (t_loads : Int32) (t_bestRound : Int32) (t_bestPlace : Int32) (t_bestAdds : Int32) (t_regret : Int32) (t_z : Int32) (t_s : Nat → Int32) (t_comes : Nat → Int32) (t_begins : Nat → Int32) (x1 : Int32) : ∀ (n : Nat) (x2 : Int32) {H : Heap} {locs : List Loc} {ls : Array Slot} (hf : lp (fun k x => b_X8_isAsSeen_12 x1 t_s t_comes t_begins t_back t_waits t_loads k x) n x2 = some (r, z_t_comes, z_t_begins, z_t_back, z_t_waits, z_t_loads)) (S : St G A s.heap H locs (w_X8_isAsSeen G a_t a_t_s a_t_image a_t_mind a_t_aside a_t_text a_t_read a_t_comes a_t_begins a_t_latest a_t_move a_t_sort a_t_items a_t_cell a_t_carried t_isKept t_work t_kind t_letters t_at t_fault t_back t_waits t_miles t_loads t_bestRound t_bestPlace t_bestAdds t_regret t_z t_s t_comes t_begins)) (hl : lv_has ls 4 [(0, .ref a_t), (1, .int x1), (2, .int x2)]), W p l e rm_X8_isAsSeen s m args below meth c H locs 0 0 (QI G below args s A r (w_X8_isAsSeen G a_t a_t_s a_t_image a_t_mind a_t_aside a_t_text a_t_read a_t_comes a_t_begins a_t_latest a_t_move a_t_sort a_t_items a_t_cell a_t_carried t_isKept t_work t_kind t_letters t_at t_fault z_t_back z_t_waits t_miles z_t_loads t_bestRound t_bestPlace t_bestAdds t_regret t_z t_s z_t_comes z_t_begins)) (F0 m 12 ls []) := by
  intro n
  induction n with
  | zero =>
    intro x2  H locs ls hf
    cases hf
  | succ n ih =>
    intro x2  H locs ls hf S hl
    have hf : b_X8_isAsSeen_12 x1 t_s t_comes t_begins t_back t_waits t_loads (lp (fun k x => b_X8_isAsSeen_12 x1 t_s t_comes t_begins t_back t_waits t_loads k x) n) x2 = some (r, z_t_comes, z_t_begins, z_t_back, z_t_waits, z_t_loads) := hf
    exact k_X8_isAsSeen_12 C t_isKept t_work t_kind t_letters t_at t_fault t_back t_waits t_miles t_loads t_bestRound t_bestPlace t_bestAdds t_regret t_z t_s t_comes t_begins x1 x2  (lp (fun k x => b_X8_isAsSeen_12 x1 t_s t_comes t_begins t_back t_waits t_loads k x) n) (fun x2'  h S hl => ih x2'  h S hl) hf S hl
set_option maxRecDepth 100000 in
set_option maxHeartbeats 4000000 in
theorem c_X8_isAsSeen (l : Launch) (G : GE) (a_t a_t_s a_t_image a_t_mind a_t_aside a_t_text a_t_read a_t_comes a_t_begins a_t_latest a_t_move a_t_sort a_t_items a_t_cell a_t_carried : Nat) (t_isKept : Int32) (t_work : Int32) (t_kind : Int32) (t_letters : Int32) (t_at : Int32) (t_fault : Int32) (t_back : Int32) (t_waits : Int32) (t_miles : Int32) (t_loads : Int32) (t_bestRound : Int32) (t_bestPlace : Int32) (t_bestAdds : Int32) (t_regret : Int32) (t_z : Int32) (t_s : Nat → Int32) (t_comes : Nat → Int32) (t_begins : Nat → Int32) (x1 : Int32) (r : Int32) (z_t_comes : Nat → Int32) (z_t_begins : Nat → Int32) (z_t_back : Int32) (z_t_waits : Int32) (z_t_loads : Int32) (hf : f_X8_isAsSeen t_s t_comes t_begins t_back t_waits t_loads x1 = some (r, z_t_comes, z_t_begins, z_t_back, z_t_waits, z_t_loads)) : CI l G yX8_isAsSeen kw_X8_isAsSeen rm_X8_isAsSeen [.ref a_t, .int x1] (w_X8_isAsSeen G a_t a_t_s a_t_image a_t_mind a_t_aside a_t_text a_t_read a_t_comes a_t_begins a_t_latest a_t_move a_t_sort a_t_items a_t_cell a_t_carried t_isKept t_work t_kind t_letters t_at t_fault t_back t_waits t_miles t_loads t_bestRound t_bestPlace t_bestAdds t_regret t_z t_s t_comes t_begins) r (w_X8_isAsSeen G a_t a_t_s a_t_image a_t_mind a_t_aside a_t_text a_t_read a_t_comes a_t_begins a_t_latest a_t_move a_t_sort a_t_items a_t_cell a_t_carried t_isKept t_work t_kind t_letters t_at t_fault z_t_back z_t_waits t_miles z_t_loads t_bestRound t_bestPlace t_bestAdds t_regret t_z t_s z_t_comes z_t_begins) := by
  refine en_I (cc := cX8_isAsSeen) (maxL := 4) (ret := (some .boolean)) (by decide +kernel) (Nat.le_of_ble_eq_true rfl) ?_
  intro p e s m args below meth c A ls C S hl
  have hl : lv_has ls 4 [(0, .ref a_t), (1, .int x1)] := hl
  have C : Cx p s m args meth c cX8_isAsSeen (some .boolean) 4 RX8 G A := C
  unfold f_X8_isAsSeen at hf
  have hx := C.1
  have hb := C.2.1
  have hown := C.2.2.2.2.1
  have hts := C.2.2.2.2.2.1
  have hN := C.2.2.2.2.2.2.2.2.2.2
  refine lv_aload_n (pc := 0) hx hb dX8_isAsSeen_0 rfl (lv_at hl 0 rfl) ?_
  refine lv_iload_n (pc := 1) hx hb dX8_isAsSeen_1 rfl (lv_at hl 1 rfl) ?_
  obtain ⟨⟨r1, o1_t_comes, o1_t_begins, o1_t_back, o1_t_waits, o1_t_loads⟩, hq1, hf⟩ := bd_e hf
  refine x_vI (pc := 2) (As := [.int x1]) (rest := []) (isC := [0, 1, 2, 3]) (ws' := (w_X8_isAsSeen G a_t a_t_s a_t_image a_t_mind a_t_aside a_t_text a_t_read a_t_comes a_t_begins a_t_latest a_t_move a_t_sort a_t_items a_t_cell a_t_carried t_isKept t_work t_kind t_letters t_at t_fault o1_t_back o1_t_waits t_miles o1_t_loads t_bestRound t_bestPlace t_bestAdds t_regret t_z t_s o1_t_comes o1_t_begins)) C S (c_X8_holds l G a_t a_t_s a_t_image a_t_mind a_t_aside a_t_text a_t_read a_t_comes a_t_begins a_t_latest a_t_move a_t_sort a_t_items a_t_cell a_t_carried t_isKept t_work t_kind t_letters t_at t_fault t_back t_waits t_miles t_loads t_bestRound t_bestPlace t_bestAdds t_regret t_z t_s t_comes t_begins x1 r1 o1_t_comes o1_t_begins o1_t_back o1_t_waits o1_t_loads hq1) (u_X8_isAsSeen_X8_holds_104 hts) (ci := 8) rfl 0 rfl rfl (by decide +kernel) [some 0, some 1, some 2, some 3] (by decide +kernel) rfl rfl rfl hl.1 rfl (Nat.le_of_ble_eq_true rfl) dX8_isAsSeen_2 (fun H locs S => ?_)
  refine lv_if_ne (tgt := 10) (pc := 5) hx hb dX8_isAsSeen_5 (by decide) (fun c2 => ?_) (fun c2 => ?_)
  · have hf := ifn c2 hf
    refine lv_iconst (pc := 10) hx hb dX8_isAsSeen_10 ic_0 ?_
    refine lv_istore_n (pc := 11) (lv' := [(2, .int (0 : Int32)), (0, .ref a_t), (1, .int x1)]) hx hb dX8_isAsSeen_11 rfl hl (by decide) rfl (fun ls hl => ?_)
    exact h_X8_isAsSeen_12 C (t_isKept) (t_work) (t_kind) (t_letters) (t_at) (t_fault) (o1_t_back) (o1_t_waits) (t_miles) (o1_t_loads) (t_bestRound) (t_bestPlace) (t_bestAdds) (t_regret) (t_z) (t_s) (o1_t_comes) (o1_t_begins) (x1) fu ((0 : Int32)) hf S (lv_sub hl [1, 2, 0] rfl)
  · have hf := ifp c2 hf
    refine lv_iconst (pc := 8) hx hb dX8_isAsSeen_8 ic_0 ?_
    cases hf
    exact x_zret (pc := 9) (by decide) C S dX8_isAsSeen_9
end

abbrev rm_X8_fits : Room := { frames := 6, cells := 0, slots := 0, locals := 143 }
abbrev kw_X8_fits : Cond := .code yX8_fits cX8_fits 7 (some .int)
abbrev w_X8_fits (G : GE) (a_t a_t_s a_t_image a_t_mind a_t_aside a_t_text a_t_read a_t_comes a_t_begins a_t_latest a_t_move a_t_sort a_t_items a_t_cell a_t_carried : Nat) (t_isKept : Int32) (t_work : Int32) (t_kind : Int32) (t_letters : Int32) (t_at : Int32) (t_fault : Int32) (t_back : Int32) (t_waits : Int32) (t_miles : Int32) (t_loads : Int32) (t_bestRound : Int32) (t_bestPlace : Int32) (t_bestAdds : Int32) (t_regret : Int32) (t_z : Int32) (t_s : Nat → Int32) (t_comes : Nat → Int32) (t_begins : Nat → Int32) : va_W := [(a_t, ob 8 [.ref a_t_s, .ref a_t_image, .ref a_t_mind, .ref a_t_aside, .int t_isKept, .int t_work, .int t_kind, .ref a_t_text, .ref a_t_read, .int t_letters, .int t_at, .int t_fault, .ref a_t_comes, .ref a_t_begins, .ref a_t_latest, .int t_back, .int t_waits, .int t_miles, .int t_loads, .int t_bestRound, .int t_bestPlace, .int t_bestAdds, .int t_regret, .ref a_t_move, .ref a_t_sort, .ref a_t_items, .ref a_t_cell, .ref a_t_carried, .int t_z]), (a_t_s, aI G 258 t_s), (a_t_comes, aI G 16 t_comes), (a_t_begins, aI G 16 t_begins)]
theorem u_X8_fits_X8_isRound_162 {s : State} {args : Array Value} (hts : ∀ w ∈ WU, w.before args s = true) : CallB rm_X8_fits s args RX8 162 yX8_isRound cX8_isRound 1 (some .boolean) (kw_X8_isRound :: WU) rm_X8_isRound 0 0 1 ∧ (Cond.static yX8_isRound).before args s = true := va_cwS 1 hts (gS qm_8_162 qs_X8_isRound qn_8 qc_X8_isRound) rfl rfl rfl (by decide +kernel) ⟨Nat.le_of_ble_eq_true rfl, Nat.le_of_ble_eq_true rfl⟩
theorem u_X8_fits_X8_isIn_55 {s : State} {args : Array Value} (hts : ∀ w ∈ WU, w.before args s = true) : CallB rm_X8_fits s args RX8 55 yX8_isIn cX8_isIn 3 (some .boolean) (kw_X8_isIn :: WU) rm_X8_isIn 0 0 3 ∧ (Cond.static yX8_isIn).before args s = true := va_cwS 3 hts (gS qm_8_55 qs_X8_isIn qn_8 qc_X8_isIn) rfl rfl rfl (by decide +kernel) ⟨Nat.le_of_ble_eq_true rfl, Nat.le_of_ble_eq_true rfl⟩
theorem u_X8_fits_X8_roundAt_59 {s : State} {args : Array Value} (hts : ∀ w ∈ WU, w.before args s = true) : CallW rm_X8_fits s args RX8 RX8 59 yX8_roundAt cX8_roundAt 3 (some .int) (kw_X8_roundAt :: WU) rm_X8_roundAt 0 0 2 := cwV 2 hts (gV qm_8_59 qi_X8_roundAt ql_X8_roundAt qn_8 qc_X8_roundAt) rfl rfl rfl (by decide +kernel) ⟨Nat.le_of_ble_eq_true rfl, Nat.le_of_ble_eq_true rfl⟩
theorem u_X8_fits_X8_isAsSeen_254 {s : State} {args : Array Value} (hts : ∀ w ∈ WU, w.before args s = true) : CallW rm_X8_fits s args RX8 RX8 254 yX8_isAsSeen cX8_isAsSeen 4 (some .boolean) (kw_X8_isAsSeen :: WU) rm_X8_isAsSeen 0 0 1 := cwV 1 hts (gV qm_8_254 qi_X8_isAsSeen ql_X8_isAsSeen qn_8 qc_X8_isAsSeen) rfl rfl rfl (by decide +kernel) ⟨Nat.le_of_ble_eq_true rfl, Nat.le_of_ble_eq_true rfl⟩
section
variable {p : Program} {l : Launch} {e : Env} {s : State} {m : MethodId} {args : Array Value} {below : List Frame} {meth : Method} {c : Code} {A : Nat → Prop} {G : GE} {a_t a_t_s a_t_image a_t_mind a_t_aside a_t_text a_t_read a_t_comes a_t_begins a_t_latest a_t_move a_t_sort a_t_items a_t_cell a_t_carried : Nat} {r : Int32} {z_t_s : Nat → Int32} {z_t_comes : Nat → Int32} {z_t_begins : Nat → Int32} {z_t_back : Int32} {z_t_waits : Int32} {z_t_loads : Int32}
set_option maxRecDepth 100000 in
set_option maxHeartbeats 4000000 in
theorem k_X8_fits_36 (C : Cx p s m args meth c cX8_fits (some .int) 7 RX8 G A) (t_isKept : Int32) (t_work : Int32) (t_kind : Int32) (t_letters : Int32) (t_at : Int32) (t_fault : Int32) (t_back : Int32) (t_waits : Int32) (t_miles : Int32) (t_loads : Int32) (t_bestRound : Int32) (t_bestPlace : Int32) (t_bestAdds : Int32) (t_regret : Int32) (t_z : Int32) (t_s : Nat → Int32) (t_comes : Nat → Int32) (t_begins : Nat → Int32) (x1 : Int32) (x2 : Int32) (x3 : Int32) (x4 : Int32) (x5 : Int32) (x6 : Int32) (k36 : Int32 × Int32 × Int32 × (Nat → Int32) × (Nat → Int32) × (Nat → Int32) × Int32 × Int32 × Int32 → Option (Int32 × (Nat → Int32) × (Nat → Int32) × (Nat → Int32) × Int32 × Int32 × Int32)) (hk36 : ∀ {H : Heap} {locs : List Loc} {ls : Array Slot} (x4' : Int32) (x5' : Int32) (x6' : Int32) (t_s' : Nat → Int32) (t_comes' : Nat → Int32) (t_begins' : Nat → Int32) (t_back' : Int32) (t_waits' : Int32) (t_loads' : Int32), k36 (x4', x5', x6', t_s', t_comes', t_begins', t_back', t_waits', t_loads') = some (r, z_t_s, z_t_comes, z_t_begins, z_t_back, z_t_waits, z_t_loads) → St G A s.heap H locs (w_X8_fits G a_t a_t_s a_t_image a_t_mind a_t_aside a_t_text a_t_read a_t_comes a_t_begins a_t_latest a_t_move a_t_sort a_t_items a_t_cell a_t_carried t_isKept t_work t_kind t_letters t_at t_fault t_back' t_waits' t_miles t_loads' t_bestRound t_bestPlace t_bestAdds t_regret t_z t_s' t_comes' t_begins') → lv_has ls 7 [(0, .ref a_t), (1, .int x1), (2, .int x2), (3, .int x3), (4, .int x4'), (5, .int x5'), (6, .int x6')] → W p l e rm_X8_fits s m args below meth c H locs 0 0 (QI G below args s A r (w_X8_fits G a_t a_t_s a_t_image a_t_mind a_t_aside a_t_text a_t_read a_t_comes a_t_begins a_t_latest a_t_move a_t_sort a_t_items a_t_cell a_t_carried t_isKept t_work t_kind t_letters t_at t_fault z_t_back z_t_waits t_miles z_t_loads t_bestRound t_bestPlace t_bestAdds t_regret t_z z_t_s z_t_comes z_t_begins)) (F0 m 36 ls [])) {H : Heap} {locs : List Loc} {ls : Array Slot} (hf : b_X8_fits_36 x1 x2 x3 k36 x4 x5 x6 t_s t_comes t_begins t_back t_waits t_loads = some (r, z_t_s, z_t_comes, z_t_begins, z_t_back, z_t_waits, z_t_loads)) (S : St G A s.heap H locs (w_X8_fits G a_t a_t_s a_t_image a_t_mind a_t_aside a_t_text a_t_read a_t_comes a_t_begins a_t_latest a_t_move a_t_sort a_t_items a_t_cell a_t_carried t_isKept t_work t_kind t_letters t_at t_fault t_back t_waits t_miles t_loads t_bestRound t_bestPlace t_bestAdds t_regret t_z t_s t_comes t_begins)) (hl : lv_has ls 7 [(0, .ref a_t), (1, .int x1), (2, .int x2), (3, .int x3), (4, .int x4), (5, .int x5), (6, .int x6)]) : W p l e rm_X8_fits s m args below meth c H locs 0 0 (QI G below args s A r (w_X8_fits G a_t a_t_s a_t_image a_t_mind a_t_aside a_t_text a_t_read a_t_comes a_t_begins a_t_latest a_t_move a_t_sort a_t_items a_t_cell a_t_carried t_isKept t_work t_kind t_letters t_at t_fault z_t_back z_t_waits t_miles z_t_loads t_bestRound t_bestPlace t_bestAdds t_regret t_z z_t_s z_t_comes z_t_begins)) (F0 m 36 ls []) := by
  unfold b_X8_fits_36 at hf
  have hx := C.1
  have hb := C.2.1
  have hown := C.2.2.2.2.1
  have hts := C.2.2.2.2.2.1
  have hN := C.2.2.2.2.2.2.2.2.2.2
  refine lv_iload (pc := 36) hx hb dX8_fits_36 (lv_at hl 6 rfl) ?_
  refine lv_if_lt (tgt := 82) (pc := 38) hx hb dX8_fits_38 (by decide) (fun c1 => ?_) (fun c1 => ?_)
  · have hf := ifp c1 hf
    refine lv_aload_n (pc := 82) hx hb dX8_fits_82 rfl (lv_at hl 0 rfl) ?_
    refine x_get (pc := 83) (ci := 8) (T := TX8) (v := .ref a_t_s) C S 0 rfl rfl inlX8 0 (by decide) rfl qf_8_11 rfl dX8_fits_83 ?_
    refine lv_sipush (pc := 86) hx hb dX8_fits_86 sc_178 ?_
    refine lv_bipush (pc := 89) hx hb dX8_fits_89 bc_20 ?_
    refine lv_iload_n (pc := 91) hx hb dX8_fits_91 rfl (lv_at hl 1 rfl) ?_
    refine lv_imul (pc := 92) hx hb dX8_fits_92 ?_
    refine lv_iadd (pc := 93) hx hb dX8_fits_93 ?_
    refine lv_iconst (pc := 94) hx hb dX8_fits_94 ic_1 ?_
    refine lv_iadd (pc := 95) hx hb dX8_fits_95 ?_
    refine lv_iload_n (pc := 96) hx hb dX8_fits_96 rfl (lv_at hl 3 rfl) ?_
    obtain ⟨hv2, hf⟩ := gI_e hf
    refine x_iast (pc := 97) (ws' := (w_X8_fits G a_t a_t_s a_t_image a_t_mind a_t_aside a_t_text a_t_read a_t_comes a_t_begins a_t_latest a_t_move a_t_sort a_t_items a_t_cell a_t_carried t_isKept t_work t_kind t_letters t_at t_fault t_back t_waits t_miles t_loads t_bestRound t_bestPlace t_bestAdds t_regret t_z (upd t_s (((178 : Int32) + ((20 : Int32) * x1)) + (1 : Int32)).toNatClampNeg x3) t_comes t_begins)) C S 1 rfl hv2 rfl dX8_fits_97 (fun H locs S => ?_)
    refine lv_iload_n (pc := 98) hx hb dX8_fits_98 rfl (lv_at hl 2 rfl) ?_
    refine lv_if_ne (tgt := 107) (pc := 99) hx hb dX8_fits_99 (by decide) (fun c3 => ?_) (fun c3 => ?_)
    · have hf := ifn c3 hf
      refine lv_iload (pc := 107) hx hb dX8_fits_107 (lv_at hl 5 rfl) ?_
      cases hf
      exact x_iret (pc := 109) C S dX8_fits_109
    · have hf := ifp c3 hf
      refine lv_iload (pc := 102) hx hb dX8_fits_102 (lv_at hl 4 rfl) ?_
      refine lv_goto (tgt := 109) (pc := 104) hx hb dX8_fits_104 (by decide) ?_
      cases hf
      exact x_iret (pc := 109) C S dX8_fits_109
  · have hf := ifn c1 hf
    refine lv_aload_n (pc := 41) hx hb dX8_fits_41 rfl (lv_at hl 0 rfl) ?_
    refine x_get (pc := 42) (ci := 8) (T := TX8) (v := .ref a_t_s) C S 0 rfl rfl inlX8 0 (by decide) rfl qf_8_11 rfl dX8_fits_42 ?_
    refine lv_sipush (pc := 45) hx hb dX8_fits_45 sc_178 ?_
    refine lv_bipush (pc := 48) hx hb dX8_fits_48 bc_20 ?_
    refine lv_iload_n (pc := 50) hx hb dX8_fits_50 rfl (lv_at hl 1 rfl) ?_
    refine lv_imul (pc := 51) hx hb dX8_fits_51 ?_
    refine lv_iadd (pc := 52) hx hb dX8_fits_52 ?_
    refine lv_iconst (pc := 53) hx hb dX8_fits_53 ic_1 ?_
    refine lv_iadd (pc := 54) hx hb dX8_fits_54 ?_
    refine lv_iload (pc := 55) hx hb dX8_fits_55 (lv_at hl 6 rfl) ?_
    obtain ⟨hv4, hf⟩ := gI_e hf
    refine x_iast (pc := 57) (ws' := (w_X8_fits G a_t a_t_s a_t_image a_t_mind a_t_aside a_t_text a_t_read a_t_comes a_t_begins a_t_latest a_t_move a_t_sort a_t_items a_t_cell a_t_carried t_isKept t_work t_kind t_letters t_at t_fault t_back t_waits t_miles t_loads t_bestRound t_bestPlace t_bestAdds t_regret t_z (upd t_s (((178 : Int32) + ((20 : Int32) * x1)) + (1 : Int32)).toNatClampNeg x6) t_comes t_begins)) C S 1 rfl hv4 rfl dX8_fits_57 (fun H locs S => ?_)
    refine lv_aload_n (pc := 58) hx hb dX8_fits_58 rfl (lv_at hl 0 rfl) ?_
    refine lv_iload_n (pc := 59) hx hb dX8_fits_59 rfl (lv_at hl 1 rfl) ?_
    obtain ⟨⟨r5, o5_t_comes, o5_t_begins, o5_t_back, o5_t_waits, o5_t_loads⟩, hq5, hf⟩ := bd_e hf
    refine x_vI (pc := 60) (As := [.int x1]) (rest := []) (isC := [0, 1, 2, 3]) (ws' := (w_X8_fits G a_t a_t_s a_t_image a_t_mind a_t_aside a_t_text a_t_read a_t_comes a_t_begins a_t_latest a_t_move a_t_sort a_t_items a_t_cell a_t_carried t_isKept t_work t_kind t_letters t_at t_fault o5_t_back o5_t_waits t_miles o5_t_loads t_bestRound t_bestPlace t_bestAdds t_regret t_z (upd t_s (((178 : Int32) + ((20 : Int32) * x1)) + (1 : Int32)).toNatClampNeg x6) o5_t_comes o5_t_begins)) C S (c_X8_isAsSeen l G a_t a_t_s a_t_image a_t_mind a_t_aside a_t_text a_t_read a_t_comes a_t_begins a_t_latest a_t_move a_t_sort a_t_items a_t_cell a_t_carried t_isKept t_work t_kind t_letters t_at t_fault t_back t_waits t_miles t_loads t_bestRound t_bestPlace t_bestAdds t_regret t_z (upd t_s (((178 : Int32) + ((20 : Int32) * x1)) + (1 : Int32)).toNatClampNeg x6) t_comes t_begins x1 r5 o5_t_comes o5_t_begins o5_t_back o5_t_waits o5_t_loads hq5) (u_X8_fits_X8_isAsSeen_254 hts) (ci := 8) rfl 0 rfl rfl (by decide +kernel) [some 0, some 1, some 2, some 3] (by decide +kernel) rfl rfl rfl hl.1 rfl (Nat.le_of_ble_eq_true rfl) dX8_fits_60 (fun H locs S => ?_)
    refine lv_if_ne (tgt := 69) (pc := 63) hx hb dX8_fits_63 (by decide) (fun c6 => ?_) (fun c6 => ?_)
    · have hf := ifn c6 hf
      refine lv_iinc (pc := 69) (v := (x4 + (1 : Int32))) (lv' := [(4, .int (x4 + (1 : Int32))), (0, .ref a_t), (1, .int x1), (2, .int x2), (3, .int x3), (5, .int x5), (6, .int x6)]) hx hb dX8_fits_69 hl (k := 4) rfl (congrArg (fun z => x4 + z) ic_1) (by decide) rfl (fun ls hl => ?_)
      refine lv_iload (pc := 72) hx hb dX8_fits_72 (lv_at hl 6 rfl) ?_
      refine lv_istore (pc := 74) (lv' := [(5, .int x6), (4, .int (x4 + (1 : Int32))), (0, .ref a_t), (1, .int x1), (2, .int x2), (3, .int x3), (6, .int x6)]) hx hb dX8_fits_74 hl (by decide) rfl (fun ls hl => ?_)
      refine lv_iinc (pc := 76) (v := (x6 + (-1 : Int32))) (lv' := [(6, .int (x6 + (-1 : Int32))), (5, .int x6), (4, .int (x4 + (1 : Int32))), (0, .ref a_t), (1, .int x1), (2, .int x2), (3, .int x3)]) hx hb dX8_fits_76 hl (k := 6) rfl (congrArg (fun z => x6 + z) ic_m1) (by decide) rfl (fun ls hl => ?_)
      refine lv_goto (tgt := 36) (pc := 79) hx hb dX8_fits_79 (by decide) ?_
      exact hk36 ((x4 + (1 : Int32))) (x6) ((x6 + (-1 : Int32))) ((upd t_s (((178 : Int32) + ((20 : Int32) * x1)) + (1 : Int32)).toNatClampNeg x6)) (o5_t_comes) (o5_t_begins) (o5_t_back) (o5_t_waits) (o5_t_loads)  hf S (lv_sub hl [3, 4, 5, 6, 2, 1, 0] rfl)
    · have hf := ifp c6 hf
      refine lv_goto (tgt := 76) (pc := 66) hx hb dX8_fits_66 (by decide) ?_
      refine lv_iinc (pc := 76) (v := (x6 + (-1 : Int32))) (lv' := [(6, .int (x6 + (-1 : Int32))), (0, .ref a_t), (1, .int x1), (2, .int x2), (3, .int x3), (4, .int x4), (5, .int x5)]) hx hb dX8_fits_76 hl (k := 6) rfl (congrArg (fun z => x6 + z) ic_m1) (by decide) rfl (fun ls hl => ?_)
      refine lv_goto (tgt := 36) (pc := 79) hx hb dX8_fits_79 (by decide) ?_
      exact hk36 (x4) (x5) ((x6 + (-1 : Int32))) ((upd t_s (((178 : Int32) + ((20 : Int32) * x1)) + (1 : Int32)).toNatClampNeg x6)) (o5_t_comes) (o5_t_begins) (o5_t_back) (o5_t_waits) (o5_t_loads)  hf S (lv_sub hl [1, 2, 3, 4, 5, 6, 0] rfl)
set_option maxRecDepth 100000 in
set_option maxHeartbeats 4000000 in
theorem h_X8_fits_36 (C : Cx p s m args meth c cX8_fits (some .int) 7 RX8 G A) (t_isKept : Int32) (t_work : Int32) (t_kind : Int32) (t_letters : Int32) (t_at : Int32) (t_fault : Int32) (t_miles : Int32) (t_bestRound : Int32) (t_bestPlace : Int32) (t_bestAdds : Int32) (t_regret : Int32) (t_z : Int32) (x1 : Int32) (x2 : Int32) (x3 : Int32) : ∀ (n : Nat) (x4 : Int32) (x5 : Int32) (x6 : Int32) (t_s : Nat → Int32) (t_comes : Nat → Int32) (t_begins : Nat → Int32) (t_back : Int32) (t_waits : Int32) (t_loads : Int32) {H : Heap} {locs : List Loc} {ls : Array Slot} (hf : lp (fun k x => b_X8_fits_36 x1 x2 x3 k x.1 x.2.1 x.2.2.1 x.2.2.2.1 x.2.2.2.2.1 x.2.2.2.2.2.1 x.2.2.2.2.2.2.1 x.2.2.2.2.2.2.2.1 x.2.2.2.2.2.2.2.2) n (x4, x5, x6, t_s, t_comes, t_begins, t_back, t_waits, t_loads) = some (r, z_t_s, z_t_comes, z_t_begins, z_t_back, z_t_waits, z_t_loads)) (S : St G A s.heap H locs (w_X8_fits G a_t a_t_s a_t_image a_t_mind a_t_aside a_t_text a_t_read a_t_comes a_t_begins a_t_latest a_t_move a_t_sort a_t_items a_t_cell a_t_carried t_isKept t_work t_kind t_letters t_at t_fault t_back t_waits t_miles t_loads t_bestRound t_bestPlace t_bestAdds t_regret t_z t_s t_comes t_begins)) (hl : lv_has ls 7 [(0, .ref a_t), (1, .int x1), (2, .int x2), (3, .int x3), (4, .int x4), (5, .int x5), (6, .int x6)]), W p l e rm_X8_fits s m args below meth c H locs 0 0 (QI G below args s A r (w_X8_fits G a_t a_t_s a_t_image a_t_mind a_t_aside a_t_text a_t_read a_t_comes a_t_begins a_t_latest a_t_move a_t_sort a_t_items a_t_cell a_t_carried t_isKept t_work t_kind t_letters t_at t_fault z_t_back z_t_waits t_miles z_t_loads t_bestRound t_bestPlace t_bestAdds t_regret t_z z_t_s z_t_comes z_t_begins)) (F0 m 36 ls []) := by
  intro n
  induction n with
  | zero =>
    intro x4 x5 x6 t_s t_comes t_begins t_back t_waits t_loads  H locs ls hf
    cases hf
  | succ n ih =>
    intro x4 x5 x6 t_s t_comes t_begins t_back t_waits t_loads  H locs ls hf S hl
    have hf : b_X8_fits_36 x1 x2 x3 (lp (fun k x => b_X8_fits_36 x1 x2 x3 k x.1 x.2.1 x.2.2.1 x.2.2.2.1 x.2.2.2.2.1 x.2.2.2.2.2.1 x.2.2.2.2.2.2.1 x.2.2.2.2.2.2.2.1 x.2.2.2.2.2.2.2.2) n) x4 x5 x6 t_s t_comes t_begins t_back t_waits t_loads = some (r, z_t_s, z_t_comes, z_t_begins, z_t_back, z_t_waits, z_t_loads) := hf
    exact k_X8_fits_36 C t_isKept t_work t_kind t_letters t_at t_fault t_back t_waits t_miles t_loads t_bestRound t_bestPlace t_bestAdds t_regret t_z t_s t_comes t_begins x1 x2 x3 x4 x5 x6  (lp (fun k x => b_X8_fits_36 x1 x2 x3 k x.1 x.2.1 x.2.2.1 x.2.2.2.1 x.2.2.2.2.1 x.2.2.2.2.2.1 x.2.2.2.2.2.2.1 x.2.2.2.2.2.2.2.1 x.2.2.2.2.2.2.2.2) n) (fun x4' x5' x6' t_s' t_comes' t_begins' t_back' t_waits' t_loads'  h S hl => ih x4' x5' x6' t_s' t_comes' t_begins' t_back' t_waits' t_loads'  h S hl) hf S hl
set_option maxRecDepth 100000 in
set_option maxHeartbeats 4000000 in
theorem c_X8_fits (l : Launch) (G : GE) (a_t a_t_s a_t_image a_t_mind a_t_aside a_t_text a_t_read a_t_comes a_t_begins a_t_latest a_t_move a_t_sort a_t_items a_t_cell a_t_carried : Nat) (t_isKept : Int32) (t_work : Int32) (t_kind : Int32) (t_letters : Int32) (t_at : Int32) (t_fault : Int32) (t_back : Int32) (t_waits : Int32) (t_miles : Int32) (t_loads : Int32) (t_bestRound : Int32) (t_bestPlace : Int32) (t_bestAdds : Int32) (t_regret : Int32) (t_z : Int32) (t_s : Nat → Int32) (t_comes : Nat → Int32) (t_begins : Nat → Int32) (x1 : Int32) (x2 : Int32) (r : Int32) (z_t_s : Nat → Int32) (z_t_comes : Nat → Int32) (z_t_begins : Nat → Int32) (z_t_back : Int32) (z_t_waits : Int32) (z_t_loads : Int32) (hf : f_X8_fits t_s t_comes t_begins t_back t_waits t_loads x1 x2 = some (r, z_t_s, z_t_comes, z_t_begins, z_t_back, z_t_waits, z_t_loads)) : CI l G yX8_fits kw_X8_fits rm_X8_fits [.ref a_t, .int x1, .int x2] (w_X8_fits G a_t a_t_s a_t_image a_t_mind a_t_aside a_t_text a_t_read a_t_comes a_t_begins a_t_latest a_t_move a_t_sort a_t_items a_t_cell a_t_carried t_isKept t_work t_kind t_letters t_at t_fault t_back t_waits t_miles t_loads t_bestRound t_bestPlace t_bestAdds t_regret t_z t_s t_comes t_begins) r (w_X8_fits G a_t a_t_s a_t_image a_t_mind a_t_aside a_t_text a_t_read a_t_comes a_t_begins a_t_latest a_t_move a_t_sort a_t_items a_t_cell a_t_carried t_isKept t_work t_kind t_letters t_at t_fault z_t_back z_t_waits t_miles z_t_loads t_bestRound t_bestPlace t_bestAdds t_regret t_z z_t_s z_t_comes z_t_begins) := by
  refine en_I (cc := cX8_fits) (maxL := 7) (ret := (some .int)) (by decide +kernel) (Nat.le_of_ble_eq_true rfl) ?_
  intro p e s m args below meth c A ls C S hl
  have hl : lv_has ls 7 [(0, .ref a_t), (1, .int x1), (2, .int x2)] := hl
  have C : Cx p s m args meth c cX8_fits (some .int) 7 RX8 G A := C
  unfold f_X8_fits at hf
  have hx := C.1
  have hb := C.2.1
  have hown := C.2.2.2.2.1
  have hts := C.2.2.2.2.2.1
  have hN := C.2.2.2.2.2.2.2.2.2.2
  refine lv_iload_n (pc := 0) hx hb dX8_fits_0 rfl (lv_at hl 1 rfl) ?_
  obtain ⟨r1, hq1, hf⟩ := bd_e hf
  refine x_sI (pc := 1) (As := [.int x1]) (rest := []) (isC := []) (ws' := (w_X8_fits G a_t a_t_s a_t_image a_t_mind a_t_aside a_t_text a_t_read a_t_comes a_t_begins a_t_latest a_t_move a_t_sort a_t_items a_t_cell a_t_carried t_isKept t_work t_kind t_letters t_at t_fault t_back t_waits t_miles t_loads t_bestRound t_bestPlace t_bestAdds t_regret t_z t_s t_comes t_begins)) C S (c_X8_isRound l G x1 r1 hq1) (u_X8_fits_X8_isRound_162 hts) rfl (by decide +kernel) [none, none, none, none] (by decide +kernel) rfl rfl rfl hl.1 rfl (Nat.le_of_ble_eq_true rfl) dX8_fits_1 (fun H locs S => ?_)
  refine lv_if_eq (tgt := 16) (pc := 4) hx hb dX8_fits_4 (by decide) (fun c2 => ?_) (fun c2 => ?_)
  · have hf := ifp c2 hf
    refine lv_iconst (pc := 16) hx hb dX8_fits_16 ic_m1 ?_
    cases hf
    exact x_iret (pc := 17) C S dX8_fits_17
  · have hf := ifn c2 hf
    refine lv_iload_n (pc := 7) hx hb dX8_fits_7 rfl (lv_at hl 2 rfl) ?_
    refine lv_iconst (pc := 8) hx hb dX8_fits_8 ic_0 ?_
    refine lv_iconst (pc := 9) hx hb dX8_fits_9 ic_1 ?_
    obtain ⟨r3, hq3, hf⟩ := bd_e hf
    refine x_sI (pc := 10) (As := [.int x2, .int (0 : Int32), .int (1 : Int32)]) (rest := []) (isC := []) (ws' := (w_X8_fits G a_t a_t_s a_t_image a_t_mind a_t_aside a_t_text a_t_read a_t_comes a_t_begins a_t_latest a_t_move a_t_sort a_t_items a_t_cell a_t_carried t_isKept t_work t_kind t_letters t_at t_fault t_back t_waits t_miles t_loads t_bestRound t_bestPlace t_bestAdds t_regret t_z t_s t_comes t_begins)) C S (c_X8_isIn l G x2 (0 : Int32) (1 : Int32) r3 hq3) (u_X8_fits_X8_isIn_55 hts) rfl (by decide +kernel) [none, none, none, none] (by decide +kernel) rfl rfl rfl hl.1 rfl (Nat.le_of_ble_eq_true rfl) dX8_fits_10 (fun H locs S => ?_)
    refine lv_if_ne (tgt := 18) (pc := 13) hx hb dX8_fits_13 (by decide) (fun c4 => ?_) (fun c4 => ?_)
    · have hf := ifn c4 hf
      refine lv_aload_n (pc := 18) hx hb dX8_fits_18 rfl (lv_at hl 0 rfl) ?_
      refine lv_iload_n (pc := 19) hx hb dX8_fits_19 rfl (lv_at hl 1 rfl) ?_
      refine lv_iconst (pc := 20) hx hb dX8_fits_20 ic_1 ?_
      obtain ⟨r5, hq5, hf⟩ := bd_e hf
      refine x_vI (pc := 21) (As := [.int x1, .int (1 : Int32)]) (rest := []) (isC := [0, 1]) (ws' := (w_X8_fits G a_t a_t_s a_t_image a_t_mind a_t_aside a_t_text a_t_read a_t_comes a_t_begins a_t_latest a_t_move a_t_sort a_t_items a_t_cell a_t_carried t_isKept t_work t_kind t_letters t_at t_fault t_back t_waits t_miles t_loads t_bestRound t_bestPlace t_bestAdds t_regret t_z t_s t_comes t_begins)) C S (c_X8_roundAt l G a_t a_t_s a_t_image a_t_mind a_t_aside a_t_text a_t_read a_t_comes a_t_begins a_t_latest a_t_move a_t_sort a_t_items a_t_cell a_t_carried t_isKept t_work t_kind t_letters t_at t_fault t_back t_waits t_miles t_loads t_bestRound t_bestPlace t_bestAdds t_regret t_z t_s x1 (1 : Int32) r5 hq5) (u_X8_fits_X8_roundAt_59 hts) (ci := 8) rfl 0 rfl rfl (by decide +kernel) [some 0, some 1, none, none] (by decide +kernel) rfl rfl rfl hl.1 rfl (Nat.le_of_ble_eq_true rfl) dX8_fits_21 (fun H locs S => ?_)
      refine lv_istore_n (pc := 24) (lv' := [(3, .int r5), (0, .ref a_t), (1, .int x1), (2, .int x2)]) hx hb dX8_fits_24 rfl hl (by decide) rfl (fun ls hl => ?_)
      refine lv_iconst (pc := 25) hx hb dX8_fits_25 ic_0 ?_
      refine lv_istore (pc := 26) (lv' := [(4, .int (0 : Int32)), (3, .int r5), (0, .ref a_t), (1, .int x1), (2, .int x2)]) hx hb dX8_fits_26 hl (by decide) rfl (fun ls hl => ?_)
      refine lv_bipush (pc := 28) hx hb dX8_fits_28 bc_m5 ?_
      refine lv_istore (pc := 30) (lv' := [(5, .int (-5 : Int32)), (4, .int (0 : Int32)), (3, .int r5), (0, .ref a_t), (1, .int x1), (2, .int x2)]) hx hb dX8_fits_30 hl (by decide) rfl (fun ls hl => ?_)
      refine lv_bipush (pc := 32) hx hb dX8_fits_32 bc_99 ?_
      refine lv_istore (pc := 34) (lv' := [(6, .int (99 : Int32)), (5, .int (-5 : Int32)), (4, .int (0 : Int32)), (3, .int r5), (0, .ref a_t), (1, .int x1), (2, .int x2)]) hx hb dX8_fits_34 hl (by decide) rfl (fun ls hl => ?_)
      exact h_X8_fits_36 C (t_isKept) (t_work) (t_kind) (t_letters) (t_at) (t_fault) (t_miles) (t_bestRound) (t_bestPlace) (t_bestAdds) (t_regret) (t_z) (x1) (x2) (r5) fu ((0 : Int32)) ((-5 : Int32)) ((99 : Int32)) (t_s) (t_comes) (t_begins) (t_back) (t_waits) (t_loads) hf S (lv_sub hl [4, 5, 6, 3, 2, 1, 0] rfl)
    · have hf := ifp c4 hf
      refine lv_iconst (pc := 16) hx hb dX8_fits_16 ic_m1 ?_
      cases hf
      exact x_iret (pc := 17) C S dX8_fits_17
end

abbrev rm_X8_image : Room := { frames := 1, cells := 0, slots := 0, locals := 22 }
abbrev kw_X8_image : Cond := .code yX8_image cX8_image 1 (some .int)
abbrev w_X8_image (G : GE) (a_t a_t_s a_t_image a_t_mind a_t_aside a_t_text a_t_read a_t_comes a_t_begins a_t_latest a_t_move a_t_sort a_t_items a_t_cell a_t_carried : Nat) (t_isKept : Int32) (t_work : Int32) (t_kind : Int32) (t_letters : Int32) (t_at : Int32) (t_fault : Int32) (t_back : Int32) (t_waits : Int32) (t_miles : Int32) (t_loads : Int32) (t_bestRound : Int32) (t_bestPlace : Int32) (t_bestAdds : Int32) (t_regret : Int32) (t_z : Int32) (t_s : Nat → Int32) (t_image : Nat → Int32) : va_W := [(a_t, ob 8 [.ref a_t_s, .ref a_t_image, .ref a_t_mind, .ref a_t_aside, .int t_isKept, .int t_work, .int t_kind, .ref a_t_text, .ref a_t_read, .int t_letters, .int t_at, .int t_fault, .ref a_t_comes, .ref a_t_begins, .ref a_t_latest, .int t_back, .int t_waits, .int t_miles, .int t_loads, .int t_bestRound, .int t_bestPlace, .int t_bestAdds, .int t_regret, .ref a_t_move, .ref a_t_sort, .ref a_t_items, .ref a_t_cell, .ref a_t_carried, .int t_z]), (a_t_s, aI G 258 t_s), (a_t_image, aI G 258 t_image)]
theorem u_X8_image_X8_copies_269 {s : State} {args : Array Value} (hts : ∀ w ∈ WU, w.before args s = true) : CallB rm_X8_image s args RX8 269 yX8_copies cX8_copies 3 none (kw_X8_copies :: WU) rm_X8_copies 0 0 2 ∧ (Cond.static yX8_copies).before args s = true := va_cwS 2 hts (gS qm_8_269 qs_X8_copies qn_8 qc_X8_copies) rfl rfl rfl (by decide +kernel) ⟨Nat.le_of_ble_eq_true rfl, Nat.le_of_ble_eq_true rfl⟩
section
variable {p : Program} {l : Launch} {e : Env} {s : State} {m : MethodId} {args : Array Value} {below : List Frame} {meth : Method} {c : Code} {A : Nat → Prop} {G : GE} {a_t a_t_s a_t_image a_t_mind a_t_aside a_t_text a_t_read a_t_comes a_t_begins a_t_latest a_t_move a_t_sort a_t_items a_t_cell a_t_carried : Nat} {r : Int32} {z_t_image : Nat → Int32} {z_t_isKept : Int32}
set_option maxRecDepth 100000 in
set_option maxHeartbeats 4000000 in
theorem c_X8_image (l : Launch) (G : GE) (a_t a_t_s a_t_image a_t_mind a_t_aside a_t_text a_t_read a_t_comes a_t_begins a_t_latest a_t_move a_t_sort a_t_items a_t_cell a_t_carried : Nat) (t_isKept : Int32) (t_work : Int32) (t_kind : Int32) (t_letters : Int32) (t_at : Int32) (t_fault : Int32) (t_back : Int32) (t_waits : Int32) (t_miles : Int32) (t_loads : Int32) (t_bestRound : Int32) (t_bestPlace : Int32) (t_bestAdds : Int32) (t_regret : Int32) (t_z : Int32) (t_s : Nat → Int32) (t_image : Nat → Int32) (r : Int32) (z_t_image : Nat → Int32) (z_t_isKept : Int32) (hf : f_X8_image t_s t_image = some (r, z_t_image, z_t_isKept)) : CI l G yX8_image kw_X8_image rm_X8_image [.ref a_t] (w_X8_image G a_t a_t_s a_t_image a_t_mind a_t_aside a_t_text a_t_read a_t_comes a_t_begins a_t_latest a_t_move a_t_sort a_t_items a_t_cell a_t_carried t_isKept t_work t_kind t_letters t_at t_fault t_back t_waits t_miles t_loads t_bestRound t_bestPlace t_bestAdds t_regret t_z t_s t_image) r (w_X8_image G a_t a_t_s a_t_image a_t_mind a_t_aside a_t_text a_t_read a_t_comes a_t_begins a_t_latest a_t_move a_t_sort a_t_items a_t_cell a_t_carried z_t_isKept t_work t_kind t_letters t_at t_fault t_back t_waits t_miles t_loads t_bestRound t_bestPlace t_bestAdds t_regret t_z t_s z_t_image) := by
  refine en_I (cc := cX8_image) (maxL := 1) (ret := (some .int)) (by decide +kernel) (Nat.le_of_ble_eq_true rfl) ?_
  intro p e s m args below meth c A ls C S hl
  have hl : lv_has ls 1 [(0, .ref a_t)] := hl
  have C : Cx p s m args meth c cX8_image (some .int) 1 RX8 G A := C
  unfold f_X8_image at hf
  have hx := C.1
  have hb := C.2.1
  have hown := C.2.2.2.2.1
  have hts := C.2.2.2.2.2.1
  have hN := C.2.2.2.2.2.2.2.2.2.2
  refine lv_aload_n (pc := 0) hx hb dX8_image_0 rfl (lv_at hl 0 rfl) ?_
  refine x_get (pc := 1) (ci := 8) (T := TX8) (v := .ref a_t_s) C S 0 rfl rfl inlX8 0 (by decide) rfl qf_8_11 rfl dX8_image_1 ?_
  refine lv_aload_n (pc := 4) hx hb dX8_image_4 rfl (lv_at hl 0 rfl) ?_
  refine x_get (pc := 5) (ci := 8) (T := TX8) (v := .ref a_t_image) C S 0 rfl rfl inlX8 1 (by decide) rfl qf_8_15 rfl dX8_image_5 ?_
  obtain ⟨o1_t_image, hq1, hf⟩ := bd_e hf
  refine x_sV (pc := 8) (As := [.ref a_t_s, .ref a_t_image]) (rest := []) (isC := [1, 2]) (ws' := (w_X8_image G a_t a_t_s a_t_image a_t_mind a_t_aside a_t_text a_t_read a_t_comes a_t_begins a_t_latest a_t_move a_t_sort a_t_items a_t_cell a_t_carried t_isKept t_work t_kind t_letters t_at t_fault t_back t_waits t_miles t_loads t_bestRound t_bestPlace t_bestAdds t_regret t_z t_s o1_t_image)) C S (c_X8_copies l G a_t_s a_t_image 258 258 t_s t_image o1_t_image hq1) (u_X8_image_X8_copies_269 hts) rfl (by decide +kernel) [none, some 0, some 1] (by decide +kernel) rfl rfl rfl hl.1 rfl (Nat.le_of_ble_eq_true rfl) dX8_image_8 (fun H locs S => ?_)
  refine lv_aload_n (pc := 11) hx hb dX8_image_11 rfl (lv_at hl 0 rfl) ?_
  refine lv_iconst (pc := 12) hx hb dX8_image_12 ic_1 ?_
  refine x_put (pc := 13) (ci := 8) (T := TX8) (ws' := (w_X8_image G a_t a_t_s a_t_image a_t_mind a_t_aside a_t_text a_t_read a_t_comes a_t_begins a_t_latest a_t_move a_t_sort a_t_items a_t_cell a_t_carried (1 : Int32) t_work t_kind t_letters t_at t_fault t_back t_waits t_miles t_loads t_bestRound t_bestPlace t_bestAdds t_regret t_z t_s o1_t_image)) C S tyX8 tyX8_ok nmX8 0 rfl rfl inlX8 4 (by decide) rfl qf_8_288 rfl rfl (nar_z (by decide)) (fit_z (by decide)) (Nat.le_of_ble_eq_true rfl) rfl dX8_image_13 (fun H locs S => ?_)
  refine lv_aload_n (pc := 16) hx hb dX8_image_16 rfl (lv_at hl 0 rfl) ?_
  refine x_get (pc := 17) (ci := 8) (T := TX8) (v := .ref a_t_s) C S 0 rfl rfl inlX8 0 (by decide) rfl qf_8_11 rfl dX8_image_17 ?_
  refine lv_iconst (pc := 20) hx hb dX8_image_20 ic_4 ?_
  refine x_iald (pc := 21) C S 1 rfl (vp_in_iff.mpr (by decide)) dX8_image_21 ?_
  cases hf
  exact x_iret (pc := 22) C S dX8_image_22
end

abbrev rm_X8_improve : Room := { frames := 7, cells := 0, slots := 0, locals := 173 }
abbrev kw_X8_improve : Cond := .code yX8_improve cX8_improve 3 (some .int)
abbrev w_X8_improve (G : GE) (a_t a_t_s a_t_image a_t_mind a_t_aside a_t_text a_t_read a_t_comes a_t_begins a_t_latest a_t_move a_t_sort a_t_items a_t_cell a_t_carried : Nat) (t_isKept : Int32) (t_work : Int32) (t_kind : Int32) (t_letters : Int32) (t_at : Int32) (t_fault : Int32) (t_back : Int32) (t_waits : Int32) (t_miles : Int32) (t_loads : Int32) (t_bestRound : Int32) (t_bestPlace : Int32) (t_bestAdds : Int32) (t_regret : Int32) (t_z : Int32) (t_s : Nat → Int32) (t_comes : Nat → Int32) (t_begins : Nat → Int32) (t_move : Nat → Int32) : va_W := [(a_t, ob 8 [.ref a_t_s, .ref a_t_image, .ref a_t_mind, .ref a_t_aside, .int t_isKept, .int t_work, .int t_kind, .ref a_t_text, .ref a_t_read, .int t_letters, .int t_at, .int t_fault, .ref a_t_comes, .ref a_t_begins, .ref a_t_latest, .int t_back, .int t_waits, .int t_miles, .int t_loads, .int t_bestRound, .int t_bestPlace, .int t_bestAdds, .int t_regret, .ref a_t_move, .ref a_t_sort, .ref a_t_items, .ref a_t_cell, .ref a_t_carried, .int t_z]), (a_t_s, aI G 258 t_s), (a_t_comes, aI G 16 t_comes), (a_t_begins, aI G 16 t_begins), (a_t_move, aI G 5 t_move)]
theorem u_X8_improve_X8_isIn_55 {s : State} {args : Array Value} (hts : ∀ w ∈ WU, w.before args s = true) : CallB rm_X8_improve s args RX8 55 yX8_isIn cX8_isIn 3 (some .boolean) (kw_X8_isIn :: WU) rm_X8_isIn 0 0 3 ∧ (Cond.static yX8_isIn).before args s = true := va_cwS 3 hts (gS qm_8_55 qs_X8_isIn qn_8 qc_X8_isIn) rfl rfl rfl (by decide +kernel) ⟨Nat.le_of_ble_eq_true rfl, Nat.le_of_ble_eq_true rfl⟩
theorem u_X8_improve_X8_works_208 {s : State} {args : Array Value} (hts : ∀ w ∈ WU, w.before args s = true) : CallW rm_X8_improve s args RX8 RX8 208 yX8_works cX8_works 2 (some .boolean) (kw_X8_works :: WU) rm_X8_works 0 0 1 := cwV 1 hts (gV qm_8_208 qi_X8_works ql_X8_works qn_8 qc_X8_works) rfl rfl rfl (by decide +kernel) ⟨Nat.le_of_ble_eq_true rfl, Nat.le_of_ble_eq_true rfl⟩
theorem u_X8_improve_X8_findsBest_233 {s : State} {args : Array Value} (hts : ∀ w ∈ WU, w.before args s = true) : CallW rm_X8_improve s args RX8 RX8 233 yX8_findsBest cX8_findsBest 7 (some .boolean) (kw_X8_findsBest :: WU) rm_X8_findsBest 0 0 0 := cwV 0 hts (gV qm_8_233 qi_X8_findsBest ql_X8_findsBest qn_8 qc_X8_findsBest) rfl rfl rfl (by decide +kernel) ⟨Nat.le_of_ble_eq_true rfl, Nat.le_of_ble_eq_true rfl⟩
theorem u_X8_improve_X8_doesBest_236 {s : State} {args : Array Value} (hts : ∀ w ∈ WU, w.before args s = true) : CallW rm_X8_improve s args RX8 RX8 236 yX8_doesBest cX8_doesBest 2 none (kw_X8_doesBest :: WU) rm_X8_doesBest 0 0 0 := cwV 0 hts (gV qm_8_236 qi_X8_doesBest ql_X8_doesBest qn_8 qc_X8_doesBest) rfl rfl rfl (by decide +kernel) ⟨Nat.le_of_ble_eq_true rfl, Nat.le_of_ble_eq_true rfl⟩
section
variable {p : Program} {l : Launch} {e : Env} {s : State} {m : MethodId} {args : Array Value} {below : List Frame} {meth : Method} {c : Code} {A : Nat → Prop} {G : GE} {a_t a_t_s a_t_image a_t_mind a_t_aside a_t_text a_t_read a_t_comes a_t_begins a_t_latest a_t_move a_t_sort a_t_items a_t_cell a_t_carried : Nat} {r : Int32} {z_t_s : Nat → Int32} {z_t_work : Int32} {z_t_comes : Nat → Int32} {z_t_begins : Nat → Int32} {z_t_back : Int32} {z_t_waits : Int32} {z_t_loads : Int32} {z_t_move : Nat → Int32}
set_option maxRecDepth 100000 in
set_option maxHeartbeats 4000000 in
theorem k_X8_improve_26 (C : Cx p s m args meth c cX8_improve (some .int) 3 RX8 G A) (t_isKept : Int32) (t_work : Int32) (t_kind : Int32) (t_letters : Int32) (t_at : Int32) (t_fault : Int32) (t_back : Int32) (t_waits : Int32) (t_miles : Int32) (t_loads : Int32) (t_bestRound : Int32) (t_bestPlace : Int32) (t_bestAdds : Int32) (t_regret : Int32) (t_z : Int32) (t_s : Nat → Int32) (t_comes : Nat → Int32) (t_begins : Nat → Int32) (t_move : Nat → Int32) (x1 : Int32) (x2 : Int32) (k26 : Int32 × (Nat → Int32) × (Nat → Int32) × (Nat → Int32) × Int32 × Int32 × Int32 × (Nat → Int32) → Option (Int32 × (Nat → Int32) × Int32 × (Nat → Int32) × (Nat → Int32) × Int32 × Int32 × Int32 × (Nat → Int32))) (hk26 : ∀ {H : Heap} {locs : List Loc} {ls : Array Slot} (x2' : Int32) (t_s' : Nat → Int32) (t_comes' : Nat → Int32) (t_begins' : Nat → Int32) (t_back' : Int32) (t_waits' : Int32) (t_loads' : Int32) (t_move' : Nat → Int32), k26 (x2', t_s', t_comes', t_begins', t_back', t_waits', t_loads', t_move') = some (r, z_t_s, z_t_work, z_t_comes, z_t_begins, z_t_back, z_t_waits, z_t_loads, z_t_move) → St G A s.heap H locs (w_X8_improve G a_t a_t_s a_t_image a_t_mind a_t_aside a_t_text a_t_read a_t_comes a_t_begins a_t_latest a_t_move a_t_sort a_t_items a_t_cell a_t_carried t_isKept t_work t_kind t_letters t_at t_fault t_back' t_waits' t_miles t_loads' t_bestRound t_bestPlace t_bestAdds t_regret t_z t_s' t_comes' t_begins' t_move') → lv_has ls 3 [(0, .ref a_t), (1, .int x1), (2, .int x2')] → W p l e rm_X8_improve s m args below meth c H locs 0 0 (QI G below args s A r (w_X8_improve G a_t a_t_s a_t_image a_t_mind a_t_aside a_t_text a_t_read a_t_comes a_t_begins a_t_latest a_t_move a_t_sort a_t_items a_t_cell a_t_carried t_isKept z_t_work t_kind t_letters t_at t_fault z_t_back z_t_waits t_miles z_t_loads t_bestRound t_bestPlace t_bestAdds t_regret t_z z_t_s z_t_comes z_t_begins z_t_move)) (F0 m 26 ls [])) {H : Heap} {locs : List Loc} {ls : Array Slot} (hf : b_X8_improve_26 x1 t_work k26 x2 t_s t_comes t_begins t_back t_waits t_loads t_move = some (r, z_t_s, z_t_work, z_t_comes, z_t_begins, z_t_back, z_t_waits, z_t_loads, z_t_move)) (S : St G A s.heap H locs (w_X8_improve G a_t a_t_s a_t_image a_t_mind a_t_aside a_t_text a_t_read a_t_comes a_t_begins a_t_latest a_t_move a_t_sort a_t_items a_t_cell a_t_carried t_isKept t_work t_kind t_letters t_at t_fault t_back t_waits t_miles t_loads t_bestRound t_bestPlace t_bestAdds t_regret t_z t_s t_comes t_begins t_move)) (hl : lv_has ls 3 [(0, .ref a_t), (1, .int x1), (2, .int x2)]) : W p l e rm_X8_improve s m args below meth c H locs 0 0 (QI G below args s A r (w_X8_improve G a_t a_t_s a_t_image a_t_mind a_t_aside a_t_text a_t_read a_t_comes a_t_begins a_t_latest a_t_move a_t_sort a_t_items a_t_cell a_t_carried t_isKept z_t_work t_kind t_letters t_at t_fault z_t_back z_t_waits t_miles z_t_loads t_bestRound t_bestPlace t_bestAdds t_regret t_z z_t_s z_t_comes z_t_begins z_t_move)) (F0 m 26 ls []) := by
  unfold b_X8_improve_26 at hf
  have hx := C.1
  have hb := C.2.1
  have hown := C.2.2.2.2.1
  have hts := C.2.2.2.2.2.1
  have hN := C.2.2.2.2.2.2.2.2.2.2
  refine lv_iload_n (pc := 26) hx hb dX8_improve_26 rfl (lv_at hl 2 rfl) ?_
  refine lv_iload_n (pc := 27) hx hb dX8_improve_27 rfl (lv_at hl 1 rfl) ?_
  refine lv_icmp_ge (tgt := 48) (pc := 28) hx hb dX8_improve_28 (by decide) (fun c1 => ?_) (fun c1 => ?_)
  · have hf := ifp c1 hf
    refine lv_iload_n (pc := 48) hx hb dX8_improve_48 rfl (lv_at hl 2 rfl) ?_
    cases hf
    exact x_iret (pc := 49) C S dX8_improve_49
  · have hf := ifn c1 hf
    refine lv_aload_n (pc := 31) hx hb dX8_improve_31 rfl (lv_at hl 0 rfl) ?_
    obtain ⟨⟨r2, o2_t_s, o2_t_comes, o2_t_begins, o2_t_back, o2_t_waits, o2_t_loads, o2_t_move⟩, hq2, hf⟩ := bd_e hf
    refine x_vI (pc := 32) (As := []) (rest := []) (isC := [0, 1, 2, 3, 4]) (ws' := (w_X8_improve G a_t a_t_s a_t_image a_t_mind a_t_aside a_t_text a_t_read a_t_comes a_t_begins a_t_latest a_t_move a_t_sort a_t_items a_t_cell a_t_carried t_isKept t_work t_kind t_letters t_at t_fault o2_t_back o2_t_waits t_miles o2_t_loads t_bestRound t_bestPlace t_bestAdds t_regret t_z o2_t_s o2_t_comes o2_t_begins o2_t_move)) C S (c_X8_findsBest l G a_t a_t_s a_t_image a_t_mind a_t_aside a_t_text a_t_read a_t_comes a_t_begins a_t_latest a_t_move a_t_sort a_t_items a_t_cell a_t_carried t_isKept t_work t_kind t_letters t_at t_fault t_back t_waits t_miles t_loads t_bestRound t_bestPlace t_bestAdds t_regret t_z t_s t_comes t_begins t_move r2 o2_t_s o2_t_comes o2_t_begins o2_t_back o2_t_waits o2_t_loads o2_t_move hq2) (u_X8_improve_X8_findsBest_233 hts) (ci := 8) rfl 0 rfl rfl (by decide +kernel) [some 0, some 1, some 2, some 3, some 4] (by decide +kernel) rfl rfl rfl hl.1 rfl (Nat.le_of_ble_eq_true rfl) dX8_improve_32 (fun H locs S => ?_)
    refine lv_if_eq (tgt := 48) (pc := 35) hx hb dX8_improve_35 (by decide) (fun c3 => ?_) (fun c3 => ?_)
    · have hf := ifp c3 hf
      refine lv_iload_n (pc := 48) hx hb dX8_improve_48 rfl (lv_at hl 2 rfl) ?_
      cases hf
      exact x_iret (pc := 49) C S dX8_improve_49
    · have hf := ifn c3 hf
      refine lv_aload_n (pc := 38) hx hb dX8_improve_38 rfl (lv_at hl 0 rfl) ?_
      obtain ⟨o4_t_s, hq4, hf⟩ := bd_e hf
      refine x_vV (pc := 39) (As := []) (rest := []) (isC := [0, 1, 4]) (ws' := (w_X8_improve G a_t a_t_s a_t_image a_t_mind a_t_aside a_t_text a_t_read a_t_comes a_t_begins a_t_latest a_t_move a_t_sort a_t_items a_t_cell a_t_carried t_isKept t_work t_kind t_letters t_at t_fault o2_t_back o2_t_waits t_miles o2_t_loads t_bestRound t_bestPlace t_bestAdds t_regret t_z o4_t_s o2_t_comes o2_t_begins o2_t_move)) C S (c_X8_doesBest l G a_t a_t_s a_t_image a_t_mind a_t_aside a_t_text a_t_read a_t_comes a_t_begins a_t_latest a_t_move a_t_sort a_t_items a_t_cell a_t_carried t_isKept t_work t_kind t_letters t_at t_fault o2_t_back o2_t_waits t_miles o2_t_loads t_bestRound t_bestPlace t_bestAdds t_regret t_z o2_t_s o2_t_move o4_t_s hq4) (u_X8_improve_X8_doesBest_236 hts) (ci := 8) rfl 0 rfl rfl (by decide +kernel) [some 0, some 1, none, none, some 2] (by decide +kernel) rfl rfl rfl hl.1 rfl (Nat.le_of_ble_eq_true rfl) dX8_improve_39 (fun H locs S => ?_)
      refine lv_iinc (pc := 42) (v := (x2 + (1 : Int32))) (lv' := [(2, .int (x2 + (1 : Int32))), (0, .ref a_t), (1, .int x1)]) hx hb dX8_improve_42 hl (k := 2) rfl (congrArg (fun z => x2 + z) ic_1) (by decide) rfl (fun ls hl => ?_)
      refine lv_goto (tgt := 26) (pc := 45) hx hb dX8_improve_45 (by decide) ?_
      exact hk26 ((x2 + (1 : Int32))) (o4_t_s) (o2_t_comes) (o2_t_begins) (o2_t_back) (o2_t_waits) (o2_t_loads) (o2_t_move)  hf S (lv_sub hl [1, 2, 0] rfl)
set_option maxRecDepth 100000 in
set_option maxHeartbeats 4000000 in
theorem h_X8_improve_26 (C : Cx p s m args meth c cX8_improve (some .int) 3 RX8 G A) (t_isKept : Int32) (t_work : Int32) (t_kind : Int32) (t_letters : Int32) (t_at : Int32) (t_fault : Int32) (t_miles : Int32) (t_bestRound : Int32) (t_bestPlace : Int32) (t_bestAdds : Int32) (t_regret : Int32) (t_z : Int32) (x1 : Int32) : ∀ (n : Nat) (x2 : Int32) (t_s : Nat → Int32) (t_comes : Nat → Int32) (t_begins : Nat → Int32) (t_back : Int32) (t_waits : Int32) (t_loads : Int32) (t_move : Nat → Int32) {H : Heap} {locs : List Loc} {ls : Array Slot} (hf : lp (fun k x => b_X8_improve_26 x1 t_work k x.1 x.2.1 x.2.2.1 x.2.2.2.1 x.2.2.2.2.1 x.2.2.2.2.2.1 x.2.2.2.2.2.2.1 x.2.2.2.2.2.2.2) n (x2, t_s, t_comes, t_begins, t_back, t_waits, t_loads, t_move) = some (r, z_t_s, z_t_work, z_t_comes, z_t_begins, z_t_back, z_t_waits, z_t_loads, z_t_move)) (S : St G A s.heap H locs (w_X8_improve G a_t a_t_s a_t_image a_t_mind a_t_aside a_t_text a_t_read a_t_comes a_t_begins a_t_latest a_t_move a_t_sort a_t_items a_t_cell a_t_carried t_isKept t_work t_kind t_letters t_at t_fault t_back t_waits t_miles t_loads t_bestRound t_bestPlace t_bestAdds t_regret t_z t_s t_comes t_begins t_move)) (hl : lv_has ls 3 [(0, .ref a_t), (1, .int x1), (2, .int x2)]), W p l e rm_X8_improve s m args below meth c H locs 0 0 (QI G below args s A r (w_X8_improve G a_t a_t_s a_t_image a_t_mind a_t_aside a_t_text a_t_read a_t_comes a_t_begins a_t_latest a_t_move a_t_sort a_t_items a_t_cell a_t_carried t_isKept z_t_work t_kind t_letters t_at t_fault z_t_back z_t_waits t_miles z_t_loads t_bestRound t_bestPlace t_bestAdds t_regret t_z z_t_s z_t_comes z_t_begins z_t_move)) (F0 m 26 ls []) := by
  intro n
  induction n with
  | zero =>
    intro x2 t_s t_comes t_begins t_back t_waits t_loads t_move  H locs ls hf
    cases hf
  | succ n ih =>
    intro x2 t_s t_comes t_begins t_back t_waits t_loads t_move  H locs ls hf S hl
    have hf : b_X8_improve_26 x1 t_work (lp (fun k x => b_X8_improve_26 x1 t_work k x.1 x.2.1 x.2.2.1 x.2.2.2.1 x.2.2.2.2.1 x.2.2.2.2.2.1 x.2.2.2.2.2.2.1 x.2.2.2.2.2.2.2) n) x2 t_s t_comes t_begins t_back t_waits t_loads t_move = some (r, z_t_s, z_t_work, z_t_comes, z_t_begins, z_t_back, z_t_waits, z_t_loads, z_t_move) := hf
    exact k_X8_improve_26 C t_isKept t_work t_kind t_letters t_at t_fault t_back t_waits t_miles t_loads t_bestRound t_bestPlace t_bestAdds t_regret t_z t_s t_comes t_begins t_move x1 x2  (lp (fun k x => b_X8_improve_26 x1 t_work k x.1 x.2.1 x.2.2.1 x.2.2.2.1 x.2.2.2.2.1 x.2.2.2.2.2.1 x.2.2.2.2.2.2.1 x.2.2.2.2.2.2.2) n) (fun x2' t_s' t_comes' t_begins' t_back' t_waits' t_loads' t_move'  h S hl => ih x2' t_s' t_comes' t_begins' t_back' t_waits' t_loads' t_move'  h S hl) hf S hl
set_option maxRecDepth 100000 in
set_option maxHeartbeats 4000000 in
theorem c_X8_improve (l : Launch) (G : GE) (a_t a_t_s a_t_image a_t_mind a_t_aside a_t_text a_t_read a_t_comes a_t_begins a_t_latest a_t_move a_t_sort a_t_items a_t_cell a_t_carried : Nat) (t_isKept : Int32) (t_work : Int32) (t_kind : Int32) (t_letters : Int32) (t_at : Int32) (t_fault : Int32) (t_back : Int32) (t_waits : Int32) (t_miles : Int32) (t_loads : Int32) (t_bestRound : Int32) (t_bestPlace : Int32) (t_bestAdds : Int32) (t_regret : Int32) (t_z : Int32) (t_s : Nat → Int32) (t_comes : Nat → Int32) (t_begins : Nat → Int32) (t_move : Nat → Int32) (x1 : Int32) (r : Int32) (z_t_s : Nat → Int32) (z_t_work : Int32) (z_t_comes : Nat → Int32) (z_t_begins : Nat → Int32) (z_t_back : Int32) (z_t_waits : Int32) (z_t_loads : Int32) (z_t_move : Nat → Int32) (hf : f_X8_improve t_s t_work t_comes t_begins t_back t_waits t_loads t_move x1 = some (r, z_t_s, z_t_work, z_t_comes, z_t_begins, z_t_back, z_t_waits, z_t_loads, z_t_move)) : CI l G yX8_improve kw_X8_improve rm_X8_improve [.ref a_t, .int x1] (w_X8_improve G a_t a_t_s a_t_image a_t_mind a_t_aside a_t_text a_t_read a_t_comes a_t_begins a_t_latest a_t_move a_t_sort a_t_items a_t_cell a_t_carried t_isKept t_work t_kind t_letters t_at t_fault t_back t_waits t_miles t_loads t_bestRound t_bestPlace t_bestAdds t_regret t_z t_s t_comes t_begins t_move) r (w_X8_improve G a_t a_t_s a_t_image a_t_mind a_t_aside a_t_text a_t_read a_t_comes a_t_begins a_t_latest a_t_move a_t_sort a_t_items a_t_cell a_t_carried t_isKept z_t_work t_kind t_letters t_at t_fault z_t_back z_t_waits t_miles z_t_loads t_bestRound t_bestPlace t_bestAdds t_regret t_z z_t_s z_t_comes z_t_begins z_t_move) := by
  refine en_I (cc := cX8_improve) (maxL := 3) (ret := (some .int)) (by decide +kernel) (Nat.le_of_ble_eq_true rfl) ?_
  intro p e s m args below meth c A ls C S hl
  have hl : lv_has ls 3 [(0, .ref a_t), (1, .int x1)] := hl
  have C : Cx p s m args meth c cX8_improve (some .int) 3 RX8 G A := C
  unfold f_X8_improve at hf
  have hx := C.1
  have hb := C.2.1
  have hown := C.2.2.2.2.1
  have hts := C.2.2.2.2.2.1
  have hN := C.2.2.2.2.2.2.2.2.2.2
  refine lv_iload_n (pc := 0) hx hb dX8_improve_0 rfl (lv_at hl 1 rfl) ?_
  refine lv_iconst (pc := 1) hx hb dX8_improve_1 ic_1 ?_
  refine lv_bipush (pc := 2) hx hb dX8_improve_2 bc_20 ?_
  obtain ⟨r1, hq1, hf⟩ := bd_e hf
  refine x_sI (pc := 4) (As := [.int x1, .int (1 : Int32), .int (20 : Int32)]) (rest := []) (isC := []) (ws' := (w_X8_improve G a_t a_t_s a_t_image a_t_mind a_t_aside a_t_text a_t_read a_t_comes a_t_begins a_t_latest a_t_move a_t_sort a_t_items a_t_cell a_t_carried t_isKept t_work t_kind t_letters t_at t_fault t_back t_waits t_miles t_loads t_bestRound t_bestPlace t_bestAdds t_regret t_z t_s t_comes t_begins t_move)) C S (c_X8_isIn l G x1 (1 : Int32) (20 : Int32) r1 hq1) (u_X8_improve_X8_isIn_55 hts) rfl (by decide +kernel) [none, none, none, none, none] (by decide +kernel) rfl rfl rfl hl.1 rfl (Nat.le_of_ble_eq_true rfl) dX8_improve_4 (fun H locs S => ?_)
  refine lv_if_ne (tgt := 13) (pc := 7) hx hb dX8_improve_7 (by decide) (fun c2 => ?_) (fun c2 => ?_)
  · have hf := ifn c2 hf
    refine lv_aload_n (pc := 13) hx hb dX8_improve_13 rfl (lv_at hl 0 rfl) ?_
    refine lv_iload_n (pc := 14) hx hb dX8_improve_14 rfl (lv_at hl 1 rfl) ?_
    obtain ⟨⟨r3, o3_t_work⟩, hq3, hf⟩ := bd_e hf
    refine x_vI (pc := 15) (As := [.int x1]) (rest := []) (isC := [0]) (ws' := (w_X8_improve G a_t a_t_s a_t_image a_t_mind a_t_aside a_t_text a_t_read a_t_comes a_t_begins a_t_latest a_t_move a_t_sort a_t_items a_t_cell a_t_carried t_isKept o3_t_work t_kind t_letters t_at t_fault t_back t_waits t_miles t_loads t_bestRound t_bestPlace t_bestAdds t_regret t_z t_s t_comes t_begins t_move)) C S (c_X8_works l G a_t a_t_s a_t_image a_t_mind a_t_aside a_t_text a_t_read a_t_comes a_t_begins a_t_latest a_t_move a_t_sort a_t_items a_t_cell a_t_carried t_isKept t_work t_kind t_letters t_at t_fault t_back t_waits t_miles t_loads t_bestRound t_bestPlace t_bestAdds t_regret t_z x1 r3 o3_t_work hq3) (u_X8_improve_X8_works_208 hts) (ci := 8) rfl 0 rfl rfl (by decide +kernel) [some 0, none, none, none, none] (by decide +kernel) rfl rfl rfl hl.1 rfl (Nat.le_of_ble_eq_true rfl) dX8_improve_15 (fun H locs S => ?_)
    refine lv_if_ne (tgt := 24) (pc := 18) hx hb dX8_improve_18 (by decide) (fun c4 => ?_) (fun c4 => ?_)
    · have hf := ifn c4 hf
      refine lv_iconst (pc := 24) hx hb dX8_improve_24 ic_0 ?_
      refine lv_istore_n (pc := 25) (lv' := [(2, .int (0 : Int32)), (0, .ref a_t), (1, .int x1)]) hx hb dX8_improve_25 rfl hl (by decide) rfl (fun ls hl => ?_)
      exact h_X8_improve_26 C (t_isKept) (o3_t_work) (t_kind) (t_letters) (t_at) (t_fault) (t_miles) (t_bestRound) (t_bestPlace) (t_bestAdds) (t_regret) (t_z) (x1) fu ((0 : Int32)) (t_s) (t_comes) (t_begins) (t_back) (t_waits) (t_loads) (t_move) hf S (lv_sub hl [1, 2, 0] rfl)
    · have hf := ifp c4 hf
      refine lv_bipush (pc := 21) hx hb dX8_improve_21 bc_m4 ?_
      cases hf
      exact x_iret (pc := 23) C S dX8_improve_23
  · have hf := ifp c2 hf
    refine lv_bipush (pc := 10) hx hb dX8_improve_10 bc_m2 ?_
    cases hf
    exact x_iret (pc := 12) C S dX8_improve_12
end

abbrev rm_X8_isTape : Room := { frames := 1, cells := 0, slots := 0, locals := 22 }
abbrev kw_X8_isTape : Cond := .code yX8_isTape cX8_isTape 1 (some .boolean)
abbrev w_X8_isTape (G : GE) : va_W := []
theorem u_X8_isTape_X8_isIn_55 {s : State} {args : Array Value} (hts : ∀ w ∈ WU, w.before args s = true) : CallB rm_X8_isTape s args RX8 55 yX8_isIn cX8_isIn 3 (some .boolean) (kw_X8_isIn :: WU) rm_X8_isIn 0 0 3 ∧ (Cond.static yX8_isIn).before args s = true := va_cwS 3 hts (gS qm_8_55 qs_X8_isIn qn_8 qc_X8_isIn) rfl rfl rfl (by decide +kernel) ⟨Nat.le_of_ble_eq_true rfl, Nat.le_of_ble_eq_true rfl⟩
section
variable {p : Program} {l : Launch} {e : Env} {s : State} {m : MethodId} {args : Array Value} {below : List Frame} {meth : Method} {c : Code} {A : Nat → Prop} {G : GE} {r : Int32}
set_option maxRecDepth 100000 in
set_option maxHeartbeats 4000000 in
theorem c_X8_isTape (l : Launch) (G : GE) (x0 : Int32) (r : Int32) (hf : f_X8_isTape x0 = some r) : CI l G yX8_isTape kw_X8_isTape rm_X8_isTape [.int x0] (w_X8_isTape G ) r (w_X8_isTape G ) := by
  refine en_I (cc := cX8_isTape) (maxL := 1) (ret := (some .boolean)) (by decide +kernel) (Nat.le_of_ble_eq_true rfl) ?_
  intro p e s m args below meth c A ls C S hl
  have hl : lv_has ls 1 [(0, .int x0)] := hl
  have C : Cx p s m args meth c cX8_isTape (some .boolean) 1 RX8 G A := C
  unfold f_X8_isTape at hf
  have hx := C.1
  have hb := C.2.1
  have hown := C.2.2.2.2.1
  have hts := C.2.2.2.2.2.1
  have hN := C.2.2.2.2.2.2.2.2.2.2
  refine lv_iload_n (pc := 0) hx hb dX8_isTape_0 rfl (lv_at hl 0 rfl) ?_
  refine lv_iconst (pc := 1) hx hb dX8_isTape_1 ic_0 ?_
  refine lv_iconst (pc := 2) hx hb dX8_isTape_2 ic_5 ?_
  obtain ⟨r1, hq1, hf⟩ := bd_e hf
  refine x_sI (pc := 3) (As := [.int x0, .int (0 : Int32), .int (5 : Int32)]) (rest := []) (isC := []) (ws' := (w_X8_isTape G )) C S (c_X8_isIn l G x0 (0 : Int32) (5 : Int32) r1 hq1) (u_X8_isTape_X8_isIn_55 hts) rfl (by decide +kernel) [] (by decide +kernel) rfl rfl rfl hl.1 rfl (Nat.le_of_ble_eq_true rfl) dX8_isTape_3 (fun H locs S => ?_)
  obtain ⟨hz2, hf⟩ := gd_e hf
  cases hf
  exact x_zret (pc := 6) hz2 C S dX8_isTape_6
end

abbrev rm_X8_item : Room := { frames := 2, cells := 0, slots := 0, locals := 42 }
abbrev kw_X8_item : Cond := .code yX8_item cX8_item 5 (some .int)
abbrev w_X8_item (G : GE) (a_t a_t_s a_t_image a_t_mind a_t_aside a_t_text a_t_read a_t_comes a_t_begins a_t_latest a_t_move a_t_sort a_t_items a_t_cell a_t_carried : Nat) (t_isKept : Int32) (t_work : Int32) (t_kind : Int32) (t_letters : Int32) (t_at : Int32) (t_fault : Int32) (t_back : Int32) (t_waits : Int32) (t_miles : Int32) (t_loads : Int32) (t_bestRound : Int32) (t_bestPlace : Int32) (t_bestAdds : Int32) (t_regret : Int32) (t_z : Int32) (t_sort : Nat → Int32) (t_items : Nat → Int32) (t_cell : Nat → Int64) : va_W := [(a_t, ob 8 [.ref a_t_s, .ref a_t_image, .ref a_t_mind, .ref a_t_aside, .int t_isKept, .int t_work, .int t_kind, .ref a_t_text, .ref a_t_read, .int t_letters, .int t_at, .int t_fault, .ref a_t_comes, .ref a_t_begins, .ref a_t_latest, .int t_back, .int t_waits, .int t_miles, .int t_loads, .int t_bestRound, .int t_bestPlace, .int t_bestAdds, .int t_regret, .ref a_t_move, .ref a_t_sort, .ref a_t_items, .ref a_t_cell, .ref a_t_carried, .int t_z]), (a_t_sort, aI G 6 t_sort), (a_t_items, aI G 6 t_items), (a_t_cell, aJ G 360 t_cell)]
theorem u_X8_item_X8_isTape_285 {s : State} {args : Array Value} (hts : ∀ w ∈ WU, w.before args s = true) : CallB rm_X8_item s args RX8 285 yX8_isTape cX8_isTape 1 (some .boolean) (kw_X8_isTape :: WU) rm_X8_isTape 0 0 1 ∧ (Cond.static yX8_isTape).before args s = true := va_cwS 1 hts (gS qm_8_285 qs_X8_isTape qn_8 qc_X8_isTape) rfl rfl rfl (by decide +kernel) ⟨Nat.le_of_ble_eq_true rfl, Nat.le_of_ble_eq_true rfl⟩
theorem u_X8_item_X8_isIn_55 {s : State} {args : Array Value} (hts : ∀ w ∈ WU, w.before args s = true) : CallB rm_X8_item s args RX8 55 yX8_isIn cX8_isIn 3 (some .boolean) (kw_X8_isIn :: WU) rm_X8_isIn 0 0 3 ∧ (Cond.static yX8_isIn).before args s = true := va_cwS 3 hts (gS qm_8_55 qs_X8_isIn qn_8 qc_X8_isIn) rfl rfl rfl (by decide +kernel) ⟨Nat.le_of_ble_eq_true rfl, Nat.le_of_ble_eq_true rfl⟩
section
variable {p : Program} {l : Launch} {e : Env} {s : State} {m : MethodId} {args : Array Value} {below : List Frame} {meth : Method} {c : Code} {A : Nat → Prop} {G : GE} {a_t a_t_s a_t_image a_t_mind a_t_aside a_t_text a_t_read a_t_comes a_t_begins a_t_latest a_t_move a_t_sort a_t_items a_t_cell a_t_carried : Nat} {r : Int32} {z_t_cell : Nat → Int64}
set_option maxRecDepth 100000 in
set_option maxHeartbeats 4000000 in
theorem k_X8_item_124 (C : Cx p s m args meth c cX8_item (some .int) 5 RX8 G A) (t_isKept : Int32) (t_work : Int32) (t_kind : Int32) (t_letters : Int32) (t_at : Int32) (t_fault : Int32) (t_back : Int32) (t_waits : Int32) (t_miles : Int32) (t_loads : Int32) (t_bestRound : Int32) (t_bestPlace : Int32) (t_bestAdds : Int32) (t_regret : Int32) (t_z : Int32) (t_sort : Nat → Int32) (t_items : Nat → Int32) (t_cell : Nat → Int64) (y1 : Int32) (y2 : Int64) {H : Heap} {locs : List Loc} {ls : Array Slot} (hf : b_X8_item_124 y1 y2 t_cell = some (r, z_t_cell)) (S : St G A s.heap H locs (w_X8_item G a_t a_t_s a_t_image a_t_mind a_t_aside a_t_text a_t_read a_t_comes a_t_begins a_t_latest a_t_move a_t_sort a_t_items a_t_cell a_t_carried t_isKept t_work t_kind t_letters t_at t_fault t_back t_waits t_miles t_loads t_bestRound t_bestPlace t_bestAdds t_regret t_z t_sort t_items t_cell)) (hl : lv_has ls 5 []) : W p l e rm_X8_item s m args below meth c H locs 0 0 (QI G below args s A r (w_X8_item G a_t a_t_s a_t_image a_t_mind a_t_aside a_t_text a_t_read a_t_comes a_t_begins a_t_latest a_t_move a_t_sort a_t_items a_t_cell a_t_carried t_isKept t_work t_kind t_letters t_at t_fault t_back t_waits t_miles t_loads t_bestRound t_bestPlace t_bestAdds t_regret t_z t_sort t_items z_t_cell)) (F0 m 124 ls [.long y2, .int y1, .ref a_t_cell]) := by
  unfold b_X8_item_124 at hf
  have hx := C.1
  have hb := C.2.1
  have hown := C.2.2.2.2.1
  have hts := C.2.2.2.2.2.1
  have hN := C.2.2.2.2.2.2.2.2.2.2
  obtain ⟨hv1, hf⟩ := gI_e hf
  refine x_last (pc := 124) (ws' := (w_X8_item G a_t a_t_s a_t_image a_t_mind a_t_aside a_t_text a_t_read a_t_comes a_t_begins a_t_latest a_t_move a_t_sort a_t_items a_t_cell a_t_carried t_isKept t_work t_kind t_letters t_at t_fault t_back t_waits t_miles t_loads t_bestRound t_bestPlace t_bestAdds t_regret t_z t_sort t_items (vp_updL t_cell y1.toNatClampNeg y2))) C S 3 rfl hv1 rfl dX8_item_124 (fun H locs S => ?_)
  refine lv_iconst (pc := 125) hx hb dX8_item_125 ic_1 ?_
  cases hf
  exact x_iret (pc := 126) C S dX8_item_126
set_option maxRecDepth 100000 in
set_option maxHeartbeats 4000000 in
theorem c_X8_item (l : Launch) (G : GE) (a_t a_t_s a_t_image a_t_mind a_t_aside a_t_text a_t_read a_t_comes a_t_begins a_t_latest a_t_move a_t_sort a_t_items a_t_cell a_t_carried : Nat) (t_isKept : Int32) (t_work : Int32) (t_kind : Int32) (t_letters : Int32) (t_at : Int32) (t_fault : Int32) (t_back : Int32) (t_waits : Int32) (t_miles : Int32) (t_loads : Int32) (t_bestRound : Int32) (t_bestPlace : Int32) (t_bestAdds : Int32) (t_regret : Int32) (t_z : Int32) (t_sort : Nat → Int32) (t_items : Nat → Int32) (t_cell : Nat → Int64) (x1 : Int32) (x2 : Int32) (x3 : Int64) (r : Int32) (z_t_cell : Nat → Int64) (hf : f_X8_item t_sort t_items t_cell x1 x2 x3 = some (r, z_t_cell)) : CI l G yX8_item kw_X8_item rm_X8_item [.ref a_t, .int x1, .int x2, .long x3] (w_X8_item G a_t a_t_s a_t_image a_t_mind a_t_aside a_t_text a_t_read a_t_comes a_t_begins a_t_latest a_t_move a_t_sort a_t_items a_t_cell a_t_carried t_isKept t_work t_kind t_letters t_at t_fault t_back t_waits t_miles t_loads t_bestRound t_bestPlace t_bestAdds t_regret t_z t_sort t_items t_cell) r (w_X8_item G a_t a_t_s a_t_image a_t_mind a_t_aside a_t_text a_t_read a_t_comes a_t_begins a_t_latest a_t_move a_t_sort a_t_items a_t_cell a_t_carried t_isKept t_work t_kind t_letters t_at t_fault t_back t_waits t_miles t_loads t_bestRound t_bestPlace t_bestAdds t_regret t_z t_sort t_items z_t_cell) := by
  refine en_I (cc := cX8_item) (maxL := 5) (ret := (some .int)) (by decide +kernel) (Nat.le_of_ble_eq_true rfl) ?_
  intro p e s m args below meth c A ls C S hl
  have hl : lv_has ls 5 [(0, .ref a_t), (1, .int x1), (2, .int x2), (3, .long x3)] := hl
  have C : Cx p s m args meth c cX8_item (some .int) 5 RX8 G A := C
  unfold f_X8_item at hf
  have hx := C.1
  have hb := C.2.1
  have hown := C.2.2.2.2.1
  have hts := C.2.2.2.2.2.1
  have hN := C.2.2.2.2.2.2.2.2.2.2
  refine lv_iload_n (pc := 0) hx hb dX8_item_0 rfl (lv_at hl 1 rfl) ?_
  obtain ⟨r1, hq1, hf⟩ := bd_e hf
  refine x_sI (pc := 1) (As := [.int x1]) (rest := []) (isC := []) (ws' := (w_X8_item G a_t a_t_s a_t_image a_t_mind a_t_aside a_t_text a_t_read a_t_comes a_t_begins a_t_latest a_t_move a_t_sort a_t_items a_t_cell a_t_carried t_isKept t_work t_kind t_letters t_at t_fault t_back t_waits t_miles t_loads t_bestRound t_bestPlace t_bestAdds t_regret t_z t_sort t_items t_cell)) C S (c_X8_isTape l G x1 r1 hq1) (u_X8_item_X8_isTape_285 hts) rfl (by decide +kernel) [none, none, none, none] (by decide +kernel) rfl rfl rfl hl.1 rfl (Nat.le_of_ble_eq_true rfl) dX8_item_1 (fun H locs S => ?_)
  refine lv_if_ne (tgt := 9) (pc := 4) hx hb dX8_item_4 (by decide) (fun c2 => ?_) (fun c2 => ?_)
  · have hf := ifn c2 hf
    refine lv_aload_n (pc := 9) hx hb dX8_item_9 rfl (lv_at hl 0 rfl) ?_
    refine x_get (pc := 10) (ci := 8) (T := TX8) (v := .ref a_t_sort) C S 0 rfl rfl inlX8 24 (by decide) rfl qf_8_42 rfl dX8_item_10 ?_
    refine lv_iload_n (pc := 13) hx hb dX8_item_13 rfl (lv_at hl 1 rfl) ?_
    obtain ⟨hv3, hf⟩ := gI_e hf
    refine x_iald (pc := 14) C S 1 rfl hv3 dX8_item_14 ?_
    refine lv_if_ge (tgt := 21) (pc := 15) hx hb dX8_item_15 (by decide) (fun c4 => ?_) (fun c4 => ?_)
    · have hf := ifp c4 hf
      refine lv_iload_n (pc := 21) hx hb dX8_item_21 rfl (lv_at hl 2 rfl) ?_
      refine lv_iconst (pc := 22) hx hb dX8_item_22 ic_0 ?_
      refine lv_aload_n (pc := 23) hx hb dX8_item_23 rfl (lv_at hl 0 rfl) ?_
      refine x_get (pc := 24) (ci := 8) (T := TX8) (v := .ref a_t_items) C S 0 rfl rfl inlX8 25 (by decide) rfl qf_8_45 rfl dX8_item_24 ?_
      refine lv_iload_n (pc := 27) hx hb dX8_item_27 rfl (lv_at hl 1 rfl) ?_
      refine x_iald (pc := 28) C S 2 rfl hv3 dX8_item_28 ?_
      refine lv_iconst (pc := 29) hx hb dX8_item_29 ic_1 ?_
      refine lv_isub (pc := 30) hx hb dX8_item_30 ?_
      obtain ⟨r5, hq5, hf⟩ := bd_e hf
      refine x_sI (pc := 31) (As := [.int x2, .int (0 : Int32), .int ((t_items x1.toNatClampNeg) - (1 : Int32))]) (rest := []) (isC := []) (ws' := (w_X8_item G a_t a_t_s a_t_image a_t_mind a_t_aside a_t_text a_t_read a_t_comes a_t_begins a_t_latest a_t_move a_t_sort a_t_items a_t_cell a_t_carried t_isKept t_work t_kind t_letters t_at t_fault t_back t_waits t_miles t_loads t_bestRound t_bestPlace t_bestAdds t_regret t_z t_sort t_items t_cell)) C S (c_X8_isIn l G x2 (0 : Int32) ((t_items x1.toNatClampNeg) - (1 : Int32)) r5 hq5) (u_X8_item_X8_isIn_55 hts) rfl (by decide +kernel) [none, none, none, none] (by decide +kernel) rfl rfl rfl hl.1 rfl (Nat.le_of_ble_eq_true rfl) dX8_item_31 (fun H locs S => ?_)
      refine lv_if_ne (tgt := 40) (pc := 34) hx hb dX8_item_34 (by decide) (fun c6 => ?_) (fun c6 => ?_)
      · have hf := ifn c6 hf
        refine lv_aload_n (pc := 40) hx hb dX8_item_40 rfl (lv_at hl 0 rfl) ?_
        refine x_get (pc := 41) (ci := 8) (T := TX8) (v := .ref a_t_cell) C S 0 rfl rfl inlX8 26 (by decide) rfl qf_8_48 rfl dX8_item_41 ?_
        refine lv_bipush (pc := 44) hx hb dX8_item_44 bc_60 ?_
        refine lv_iload_n (pc := 46) hx hb dX8_item_46 rfl (lv_at hl 1 rfl) ?_
        refine lv_imul (pc := 47) hx hb dX8_item_47 ?_
        refine lv_iload_n (pc := 48) hx hb dX8_item_48 rfl (lv_at hl 2 rfl) ?_
        refine lv_iadd (pc := 49) hx hb dX8_item_49 ?_
        refine lv_aload_n (pc := 50) hx hb dX8_item_50 rfl (lv_at hl 0 rfl) ?_
        refine x_get (pc := 51) (ci := 8) (T := TX8) (v := .ref a_t_sort) C S 0 rfl rfl inlX8 24 (by decide) rfl qf_8_42 rfl dX8_item_51 ?_
        refine lv_iload_n (pc := 54) hx hb dX8_item_54 rfl (lv_at hl 1 rfl) ?_
        refine x_iald (pc := 55) C S 1 rfl hv3 dX8_item_55 ?_
        refine lv_if_ne (tgt := 66) (pc := 56) hx hb dX8_item_56 (by decide) (fun c7 => ?_) (fun c7 => ?_)
        · have hf := ifn c7 hf
          refine lv_aload_n (pc := 66) hx hb dX8_item_66 rfl (lv_at hl 0 rfl) ?_
          refine x_get (pc := 67) (ci := 8) (T := TX8) (v := .ref a_t_sort) C S 0 rfl rfl inlX8 24 (by decide) rfl qf_8_42 rfl dX8_item_67 ?_
          refine lv_iload_n (pc := 70) hx hb dX8_item_70 rfl (lv_at hl 1 rfl) ?_
          refine x_iald (pc := 71) C S 1 rfl hv3 dX8_item_71 ?_
          refine lv_iconst (pc := 72) hx hb dX8_item_72 ic_1 ?_
          refine lv_icmp_ne (tgt := 83) (pc := 73) hx hb dX8_item_73 (by decide) (fun c8 => ?_) (fun c8 => ?_)
          · have hf := ifn c8 hf
            refine lv_aload_n (pc := 83) hx hb dX8_item_83 rfl (lv_at hl 0 rfl) ?_
            refine x_get (pc := 84) (ci := 8) (T := TX8) (v := .ref a_t_sort) C S 0 rfl rfl inlX8 24 (by decide) rfl qf_8_42 rfl dX8_item_84 ?_
            refine lv_iload_n (pc := 87) hx hb dX8_item_87 rfl (lv_at hl 1 rfl) ?_
            refine x_iald (pc := 88) C S 1 rfl hv3 dX8_item_88 ?_
            refine lv_iconst (pc := 89) hx hb dX8_item_89 ic_2 ?_
            refine lv_icmp_ne (tgt := 99) (pc := 90) hx hb dX8_item_90 (by decide) (fun c9 => ?_) (fun c9 => ?_)
            · have hf := ifn c9 hf
              refine lv_aload_n (pc := 99) hx hb dX8_item_99 rfl (lv_at hl 0 rfl) ?_
              refine x_get (pc := 100) (ci := 8) (T := TX8) (v := .ref a_t_sort) C S 0 rfl rfl inlX8 24 (by decide) rfl qf_8_42 rfl dX8_item_100 ?_
              refine lv_iload_n (pc := 103) hx hb dX8_item_103 rfl (lv_at hl 1 rfl) ?_
              refine x_iald (pc := 104) C S 1 rfl hv3 dX8_item_104 ?_
              refine lv_iconst (pc := 105) hx hb dX8_item_105 ic_3 ?_
              refine lv_icmp_ne (tgt := 113) (pc := 106) hx hb dX8_item_106 (by decide) (fun c10 => ?_) (fun c10 => ?_)
              · have hf := ifn c10 hf
                refine lv_lload_n (pc := 113) hx hb dX8_item_113 rfl (lv_at hl 3 rfl) ?_
                refine lv_lconst (pc := 114) hx hb dX8_item_114 lc_0 ?_
                refine W.lcmp (pc := 115) hx hb dX8_item_115 ?_
                refine lv_if_eq (tgt := 123) (pc := 116) hx hb dX8_item_116 (by decide) (fun c11 => ?_) (fun c11 => ?_)
                · have hf := ifp c11 hf
                  refine lv_lconst (pc := 123) hx hb dX8_item_123 lc_0 ?_
                  exact k_X8_item_124 C (t_isKept) (t_work) (t_kind) (t_letters) (t_at) (t_fault) (t_back) (t_waits) (t_miles) (t_loads) (t_bestRound) (t_bestPlace) (t_bestAdds) (t_regret) (t_z) (t_sort) (t_items) (t_cell) ((((60 : Int32) * x1) + x2)) ((0 : Int64)) hf S (lv_sub hl [] rfl)
                · have hf := ifn c11 hf
                  refine lv_lconst (pc := 119) hx hb dX8_item_119 lc_1 ?_
                  refine lv_goto (tgt := 124) (pc := 120) hx hb dX8_item_120 (by decide) ?_
                  exact k_X8_item_124 C (t_isKept) (t_work) (t_kind) (t_letters) (t_at) (t_fault) (t_back) (t_waits) (t_miles) (t_loads) (t_bestRound) (t_bestPlace) (t_bestAdds) (t_regret) (t_z) (t_sort) (t_items) (t_cell) ((((60 : Int32) * x1) + x2)) ((1 : Int64)) hf S (lv_sub hl [] rfl)
              · have hf := ifp c10 hf
                refine lv_lload_n (pc := 109) hx hb dX8_item_109 rfl (lv_at hl 3 rfl) ?_
                refine lv_goto (tgt := 124) (pc := 110) hx hb dX8_item_110 (by decide) ?_
                exact k_X8_item_124 C (t_isKept) (t_work) (t_kind) (t_letters) (t_at) (t_fault) (t_back) (t_waits) (t_miles) (t_loads) (t_bestRound) (t_bestPlace) (t_bestAdds) (t_regret) (t_z) (t_sort) (t_items) (t_cell) ((((60 : Int32) * x1) + x2)) (x3) hf S (lv_sub hl [] rfl)
            · have hf := ifp c9 hf
              refine lv_lload_n (pc := 93) hx hb dX8_item_93 rfl (lv_at hl 3 rfl) ?_
              refine lv_l2i (pc := 94) hx hb dX8_item_94 rfl ?_
              refine lv_i2l (pc := 95) hx hb dX8_item_95 rfl ?_
              refine lv_goto (tgt := 124) (pc := 96) hx hb dX8_item_96 (by decide) ?_
              exact k_X8_item_124 C (t_isKept) (t_work) (t_kind) (t_letters) (t_at) (t_fault) (t_back) (t_waits) (t_miles) (t_loads) (t_bestRound) (t_bestPlace) (t_bestAdds) (t_regret) (t_z) (t_sort) (t_items) (t_cell) ((((60 : Int32) * x1) + x2)) (x3.toInt32.toInt64) hf S (lv_sub hl [] rfl)
          · have hf := ifp c8 hf
            refine lv_lload_n (pc := 76) hx hb dX8_item_76 rfl (lv_at hl 3 rfl) ?_
            refine lv_l2i (pc := 77) hx hb dX8_item_77 rfl ?_
            refine lv_i2s (pc := 78) hx hb dX8_item_78 rfl ?_
            refine lv_i2l (pc := 79) hx hb dX8_item_79 rfl ?_
            refine lv_goto (tgt := 124) (pc := 80) hx hb dX8_item_80 (by decide) ?_
            exact k_X8_item_124 C (t_isKept) (t_work) (t_kind) (t_letters) (t_at) (t_fault) (t_back) (t_waits) (t_miles) (t_loads) (t_bestRound) (t_bestPlace) (t_bestAdds) (t_regret) (t_z) (t_sort) (t_items) (t_cell) ((((60 : Int32) * x1) + x2)) (x3.toInt32.toInt16.toInt32.toInt64) hf S (lv_sub hl [] rfl)
        · have hf := ifp c7 hf
          refine lv_lload_n (pc := 59) hx hb dX8_item_59 rfl (lv_at hl 3 rfl) ?_
          refine lv_l2i (pc := 60) hx hb dX8_item_60 rfl ?_
          refine lv_i2b (pc := 61) hx hb dX8_item_61 rfl ?_
          refine lv_i2l (pc := 62) hx hb dX8_item_62 rfl ?_
          refine lv_goto (tgt := 124) (pc := 63) hx hb dX8_item_63 (by decide) ?_
          exact k_X8_item_124 C (t_isKept) (t_work) (t_kind) (t_letters) (t_at) (t_fault) (t_back) (t_waits) (t_miles) (t_loads) (t_bestRound) (t_bestPlace) (t_bestAdds) (t_regret) (t_z) (t_sort) (t_items) (t_cell) ((((60 : Int32) * x1) + x2)) (x3.toInt32.toInt8.toInt32.toInt64) hf S (lv_sub hl [] rfl)
      · have hf := ifp c6 hf
        refine lv_bipush (pc := 37) hx hb dX8_item_37 bc_m13 ?_
        cases hf
        exact x_iret (pc := 39) C S dX8_item_39
    · have hf := ifn c4 hf
      refine lv_bipush (pc := 18) hx hb dX8_item_18 bc_m11 ?_
      cases hf
      exact x_iret (pc := 20) C S dX8_item_20
  · have hf := ifp c2 hf
    refine lv_iconst (pc := 7) hx hb dX8_item_7 ic_m1 ?_
    cases hf
    exact x_iret (pc := 8) C S dX8_item_8
end

abbrev rm_X8_judge : Room := { frames := 2, cells := 0, slots := 0, locals := 42 }
abbrev kw_X8_judge : Cond := .code yX8_judge cX8_judge 5 (some .int)
abbrev w_X8_judge (G : GE) (a_t a_t_s a_t_image a_t_mind a_t_aside a_t_text a_t_read a_t_comes a_t_begins a_t_latest a_t_move a_t_sort a_t_items a_t_cell a_t_carried : Nat) (t_isKept : Int32) (t_work : Int32) (t_kind : Int32) (t_letters : Int32) (t_at : Int32) (t_fault : Int32) (t_back : Int32) (t_waits : Int32) (t_miles : Int32) (t_loads : Int32) (t_bestRound : Int32) (t_bestPlace : Int32) (t_bestAdds : Int32) (t_regret : Int32) (t_z : Int32) (t_s : Nat → Int32) (t_sort : Nat → Int32) (t_items : Nat → Int32) (t_cell : Nat → Int64) : va_W := [(a_t, ob 8 [.ref a_t_s, .ref a_t_image, .ref a_t_mind, .ref a_t_aside, .int t_isKept, .int t_work, .int t_kind, .ref a_t_text, .ref a_t_read, .int t_letters, .int t_at, .int t_fault, .ref a_t_comes, .ref a_t_begins, .ref a_t_latest, .int t_back, .int t_waits, .int t_miles, .int t_loads, .int t_bestRound, .int t_bestPlace, .int t_bestAdds, .int t_regret, .ref a_t_move, .ref a_t_sort, .ref a_t_items, .ref a_t_cell, .ref a_t_carried, .int t_z]), (a_t_s, aI G 258 t_s), (a_t_sort, aI G 6 t_sort), (a_t_items, aI G 6 t_items), (a_t_cell, aJ G 360 t_cell)]
theorem u_X8_judge_X8_isRound_162 {s : State} {args : Array Value} (hts : ∀ w ∈ WU, w.before args s = true) : CallB rm_X8_judge s args RX8 162 yX8_isRound cX8_isRound 1 (some .boolean) (kw_X8_isRound :: WU) rm_X8_isRound 0 0 1 ∧ (Cond.static yX8_isRound).before args s = true := va_cwS 1 hts (gS qm_8_162 qs_X8_isRound qn_8 qc_X8_isRound) rfl rfl rfl (by decide +kernel) ⟨Nat.le_of_ble_eq_true rfl, Nat.le_of_ble_eq_true rfl⟩
theorem u_X8_judge_X8_isTape_285 {s : State} {args : Array Value} (hts : ∀ w ∈ WU, w.before args s = true) : CallB rm_X8_judge s args RX8 285 yX8_isTape cX8_isTape 1 (some .boolean) (kw_X8_isTape :: WU) rm_X8_isTape 0 0 1 ∧ (Cond.static yX8_isTape).before args s = true := va_cwS 1 hts (gS qm_8_285 qs_X8_isTape qn_8 qc_X8_isTape) rfl rfl rfl (by decide +kernel) ⟨Nat.le_of_ble_eq_true rfl, Nat.le_of_ble_eq_true rfl⟩
theorem u_X8_judge_X8_roundAt_59 {s : State} {args : Array Value} (hts : ∀ w ∈ WU, w.before args s = true) : CallW rm_X8_judge s args RX8 RX8 59 yX8_roundAt cX8_roundAt 3 (some .int) (kw_X8_roundAt :: WU) rm_X8_roundAt 0 0 2 := cwV 2 hts (gV qm_8_59 qi_X8_roundAt ql_X8_roundAt qn_8 qc_X8_roundAt) rfl rfl rfl (by decide +kernel) ⟨Nat.le_of_ble_eq_true rfl, Nat.le_of_ble_eq_true rfl⟩
theorem u_X8_judge_X8_isIn_55 {s : State} {args : Array Value} (hts : ∀ w ∈ WU, w.before args s = true) : CallB rm_X8_judge s args RX8 55 yX8_isIn cX8_isIn 3 (some .boolean) (kw_X8_isIn :: WU) rm_X8_isIn 0 0 3 ∧ (Cond.static yX8_isIn).before args s = true := va_cwS 3 hts (gS qm_8_55 qs_X8_isIn qn_8 qc_X8_isIn) rfl rfl rfl (by decide +kernel) ⟨Nat.le_of_ble_eq_true rfl, Nat.le_of_ble_eq_true rfl⟩
theorem u_X8_judge_X8_inRow_63 {s : State} {args : Array Value} (hts : ∀ w ∈ WU, w.before args s = true) : CallW rm_X8_judge s args RX8 RX8 63 yX8_inRow cX8_inRow 3 (some .int) (kw_X8_inRow :: WU) rm_X8_inRow 0 0 2 := cwV 2 hts (gV qm_8_63 qi_X8_inRow ql_X8_inRow qn_8 qc_X8_inRow) rfl rfl rfl (by decide +kernel) ⟨Nat.le_of_ble_eq_true rfl, Nat.le_of_ble_eq_true rfl⟩
section
variable {p : Program} {l : Launch} {e : Env} {s : State} {m : MethodId} {args : Array Value} {below : List Frame} {meth : Method} {c : Code} {A : Nat → Prop} {G : GE} {a_t a_t_s a_t_image a_t_mind a_t_aside a_t_text a_t_read a_t_comes a_t_begins a_t_latest a_t_move a_t_sort a_t_items a_t_cell a_t_carried : Nat} {r : Int32}
set_option maxRecDepth 100000 in
set_option maxHeartbeats 4000000 in
theorem k_X8_judge_31 (C : Cx p s m args meth c cX8_judge (some .int) 5 RX8 G A) (t_isKept : Int32) (t_work : Int32) (t_kind : Int32) (t_letters : Int32) (t_at : Int32) (t_fault : Int32) (t_back : Int32) (t_waits : Int32) (t_miles : Int32) (t_loads : Int32) (t_bestRound : Int32) (t_bestPlace : Int32) (t_bestAdds : Int32) (t_regret : Int32) (t_z : Int32) (t_s : Nat → Int32) (t_sort : Nat → Int32) (t_items : Nat → Int32) (t_cell : Nat → Int64) (x1 : Int32) (x2 : Int32) (x3 : Int32) (x4 : Int32) (k31 : Int32 → Option (Int32)) (hk31 : ∀ {H : Heap} {locs : List Loc} {ls : Array Slot} (x4' : Int32), k31 x4' = some r → St G A s.heap H locs (w_X8_judge G a_t a_t_s a_t_image a_t_mind a_t_aside a_t_text a_t_read a_t_comes a_t_begins a_t_latest a_t_move a_t_sort a_t_items a_t_cell a_t_carried t_isKept t_work t_kind t_letters t_at t_fault t_back t_waits t_miles t_loads t_bestRound t_bestPlace t_bestAdds t_regret t_z t_s t_sort t_items t_cell) → lv_has ls 5 [(0, .ref a_t), (1, .int x1), (2, .int x2), (3, .int x3), (4, .int x4')] → W p l e rm_X8_judge s m args below meth c H locs 0 0 (QI G below args s A r (w_X8_judge G a_t a_t_s a_t_image a_t_mind a_t_aside a_t_text a_t_read a_t_comes a_t_begins a_t_latest a_t_move a_t_sort a_t_items a_t_cell a_t_carried t_isKept t_work t_kind t_letters t_at t_fault t_back t_waits t_miles t_loads t_bestRound t_bestPlace t_bestAdds t_regret t_z t_s t_sort t_items t_cell)) (F0 m 31 ls [])) {H : Heap} {locs : List Loc} {ls : Array Slot} (hf : b_X8_judge_31 x1 x2 x3 t_s t_sort t_items t_cell k31 x4 = some r) (S : St G A s.heap H locs (w_X8_judge G a_t a_t_s a_t_image a_t_mind a_t_aside a_t_text a_t_read a_t_comes a_t_begins a_t_latest a_t_move a_t_sort a_t_items a_t_cell a_t_carried t_isKept t_work t_kind t_letters t_at t_fault t_back t_waits t_miles t_loads t_bestRound t_bestPlace t_bestAdds t_regret t_z t_s t_sort t_items t_cell)) (hl : lv_has ls 5 [(0, .ref a_t), (1, .int x1), (2, .int x2), (3, .int x3), (4, .int x4)]) : W p l e rm_X8_judge s m args below meth c H locs 0 0 (QI G below args s A r (w_X8_judge G a_t a_t_s a_t_image a_t_mind a_t_aside a_t_text a_t_read a_t_comes a_t_begins a_t_latest a_t_move a_t_sort a_t_items a_t_cell a_t_carried t_isKept t_work t_kind t_letters t_at t_fault t_back t_waits t_miles t_loads t_bestRound t_bestPlace t_bestAdds t_regret t_z t_s t_sort t_items t_cell)) (F0 m 31 ls []) := by
  unfold b_X8_judge_31 at hf
  have hx := C.1
  have hb := C.2.1
  have hown := C.2.2.2.2.1
  have hts := C.2.2.2.2.2.1
  have hN := C.2.2.2.2.2.2.2.2.2.2
  refine lv_iload (pc := 31) hx hb dX8_judge_31 (lv_at hl 4 rfl) ?_
  refine lv_aload_n (pc := 33) hx hb dX8_judge_33 rfl (lv_at hl 0 rfl) ?_
  refine lv_iload_n (pc := 34) hx hb dX8_judge_34 rfl (lv_at hl 1 rfl) ?_
  refine lv_iconst (pc := 35) hx hb dX8_judge_35 ic_3 ?_
  obtain ⟨r1, hq1, hf⟩ := bd_e hf
  refine x_vI (pc := 36) (As := [.int x1, .int (3 : Int32)]) (rest := [.int x4]) (isC := [0, 1]) (ws' := (w_X8_judge G a_t a_t_s a_t_image a_t_mind a_t_aside a_t_text a_t_read a_t_comes a_t_begins a_t_latest a_t_move a_t_sort a_t_items a_t_cell a_t_carried t_isKept t_work t_kind t_letters t_at t_fault t_back t_waits t_miles t_loads t_bestRound t_bestPlace t_bestAdds t_regret t_z t_s t_sort t_items t_cell)) C S (c_X8_roundAt l G a_t a_t_s a_t_image a_t_mind a_t_aside a_t_text a_t_read a_t_comes a_t_begins a_t_latest a_t_move a_t_sort a_t_items a_t_cell a_t_carried t_isKept t_work t_kind t_letters t_at t_fault t_back t_waits t_miles t_loads t_bestRound t_bestPlace t_bestAdds t_regret t_z t_s x1 (3 : Int32) r1 hq1) (u_X8_judge_X8_roundAt_59 hts) (ci := 8) rfl 0 rfl rfl (by decide +kernel) [some 0, some 1, none, none, none] (by decide +kernel) rfl rfl rfl hl.1 rfl (Nat.le_of_ble_eq_true rfl) dX8_judge_36 (fun H locs S => ?_)
  refine lv_icmp_ge (tgt := 111) (pc := 39) hx hb dX8_judge_39 (by decide) (fun c2 => ?_) (fun c2 => ?_)
  · have hf := ifp c2 hf
    refine lv_bipush (pc := 111) hx hb dX8_judge_111 bc_m5 ?_
    cases hf
    exact x_iret (pc := 113) C S dX8_judge_113
  · have hf := ifn c2 hf
    refine lv_aload_n (pc := 42) hx hb dX8_judge_42 rfl (lv_at hl 0 rfl) ?_
    refine x_get (pc := 43) (ci := 8) (T := TX8) (v := .ref a_t_sort) C S 0 rfl rfl inlX8 24 (by decide) rfl qf_8_42 rfl dX8_judge_43 ?_
    refine lv_iload_n (pc := 46) hx hb dX8_judge_46 rfl (lv_at hl 2 rfl) ?_
    obtain ⟨hv3, hf⟩ := gI_e hf
    refine x_iald (pc := 47) C S 2 rfl hv3 dX8_judge_47 ?_
    refine lv_if_lt (tgt := 70) (pc := 48) hx hb dX8_judge_48 (by decide) (fun c4 => ?_) (fun c4 => ?_)
    · have hf := ifp c4 hf
      refine lv_bipush (pc := 70) hx hb dX8_judge_70 bc_100 ?_
      refine lv_iload (pc := 72) hx hb dX8_judge_72 (lv_at hl 4 rfl) ?_
      refine lv_iadd (pc := 74) hx hb dX8_judge_74 ?_
      cases hf
      exact x_iret (pc := 75) C S dX8_judge_75
    · have hf := ifn c4 hf
      refine lv_iload_n (pc := 51) hx hb dX8_judge_51 rfl (lv_at hl 3 rfl) ?_
      refine lv_iconst (pc := 52) hx hb dX8_judge_52 ic_0 ?_
      refine lv_aload_n (pc := 53) hx hb dX8_judge_53 rfl (lv_at hl 0 rfl) ?_
      refine x_get (pc := 54) (ci := 8) (T := TX8) (v := .ref a_t_items) C S 0 rfl rfl inlX8 25 (by decide) rfl qf_8_45 rfl dX8_judge_54 ?_
      refine lv_iload_n (pc := 57) hx hb dX8_judge_57 rfl (lv_at hl 2 rfl) ?_
      refine x_iald (pc := 58) C S 3 rfl hv3 dX8_judge_58 ?_
      refine lv_iconst (pc := 59) hx hb dX8_judge_59 ic_1 ?_
      refine lv_isub (pc := 60) hx hb dX8_judge_60 ?_
      refine lv_iload (pc := 61) hx hb dX8_judge_61 (lv_at hl 4 rfl) ?_
      refine lv_isub (pc := 63) hx hb dX8_judge_63 ?_
      obtain ⟨r5, hq5, hf⟩ := bd_e hf
      refine x_sI (pc := 64) (As := [.int x3, .int (0 : Int32), .int (((t_items x2.toNatClampNeg) - (1 : Int32)) - x4)]) (rest := []) (isC := []) (ws' := (w_X8_judge G a_t a_t_s a_t_image a_t_mind a_t_aside a_t_text a_t_read a_t_comes a_t_begins a_t_latest a_t_move a_t_sort a_t_items a_t_cell a_t_carried t_isKept t_work t_kind t_letters t_at t_fault t_back t_waits t_miles t_loads t_bestRound t_bestPlace t_bestAdds t_regret t_z t_s t_sort t_items t_cell)) C S (c_X8_isIn l G x3 (0 : Int32) (((t_items x2.toNatClampNeg) - (1 : Int32)) - x4) r5 hq5) (u_X8_judge_X8_isIn_55 hts) rfl (by decide +kernel) [none, none, none, none, none] (by decide +kernel) rfl rfl rfl hl.1 rfl (Nat.le_of_ble_eq_true rfl) dX8_judge_64 (fun H locs S => ?_)
      refine lv_if_ne (tgt := 76) (pc := 67) hx hb dX8_judge_67 (by decide) (fun c6 => ?_) (fun c6 => ?_)
      · have hf := ifn c6 hf
        refine lv_aload_n (pc := 76) hx hb dX8_judge_76 rfl (lv_at hl 0 rfl) ?_
        refine x_get (pc := 77) (ci := 8) (T := TX8) (v := .ref a_t_cell) C S 0 rfl rfl inlX8 26 (by decide) rfl qf_8_48 rfl dX8_judge_77 ?_
        refine lv_bipush (pc := 80) hx hb dX8_judge_80 bc_60 ?_
        refine lv_iload_n (pc := 82) hx hb dX8_judge_82 rfl (lv_at hl 2 rfl) ?_
        refine lv_imul (pc := 83) hx hb dX8_judge_83 ?_
        refine lv_iload_n (pc := 84) hx hb dX8_judge_84 rfl (lv_at hl 3 rfl) ?_
        refine lv_iadd (pc := 85) hx hb dX8_judge_85 ?_
        refine lv_iload (pc := 86) hx hb dX8_judge_86 (lv_at hl 4 rfl) ?_
        refine lv_iadd (pc := 88) hx hb dX8_judge_88 ?_
        obtain ⟨hv7, hf⟩ := gI_e hf
        refine x_lald (pc := 89) C S 4 rfl hv7 dX8_judge_89 ?_
        refine lv_aload_n (pc := 90) hx hb dX8_judge_90 rfl (lv_at hl 0 rfl) ?_
        refine lv_iload_n (pc := 91) hx hb dX8_judge_91 rfl (lv_at hl 1 rfl) ?_
        refine lv_iload (pc := 92) hx hb dX8_judge_92 (lv_at hl 4 rfl) ?_
        obtain ⟨r8, hq8, hf⟩ := bd_e hf
        refine x_vI (pc := 94) (As := [.int x1, .int x4]) (rest := [.long (t_cell ((((60 : Int32) * x2) + x3) + x4).toNatClampNeg)]) (isC := [0, 1]) (ws' := (w_X8_judge G a_t a_t_s a_t_image a_t_mind a_t_aside a_t_text a_t_read a_t_comes a_t_begins a_t_latest a_t_move a_t_sort a_t_items a_t_cell a_t_carried t_isKept t_work t_kind t_letters t_at t_fault t_back t_waits t_miles t_loads t_bestRound t_bestPlace t_bestAdds t_regret t_z t_s t_sort t_items t_cell)) C S (c_X8_inRow l G a_t a_t_s a_t_image a_t_mind a_t_aside a_t_text a_t_read a_t_comes a_t_begins a_t_latest a_t_move a_t_sort a_t_items a_t_cell a_t_carried t_isKept t_work t_kind t_letters t_at t_fault t_back t_waits t_miles t_loads t_bestRound t_bestPlace t_bestAdds t_regret t_z t_s x1 x4 r8 hq8) (u_X8_judge_X8_inRow_63 hts) (ci := 8) rfl 0 rfl rfl (by decide +kernel) [some 0, some 1, none, none, none] (by decide +kernel) rfl rfl rfl hl.1 rfl (Nat.le_of_ble_eq_true rfl) dX8_judge_94 (fun H locs S => ?_)
        refine lv_i2l (pc := 97) hx hb dX8_judge_97 rfl ?_
        refine W.lcmp (pc := 98) hx hb dX8_judge_98 ?_
        refine lv_if_eq (tgt := 105) (pc := 99) hx hb dX8_judge_99 (by decide) (fun c9 => ?_) (fun c9 => ?_)
        · have hf := ifp c9 hf
          refine lv_iinc (pc := 105) (v := (x4 + (1 : Int32))) (lv' := [(4, .int (x4 + (1 : Int32))), (0, .ref a_t), (1, .int x1), (2, .int x2), (3, .int x3)]) hx hb dX8_judge_105 hl (k := 4) rfl (congrArg (fun z => x4 + z) ic_1) (by decide) rfl (fun ls hl => ?_)
          refine lv_goto (tgt := 31) (pc := 108) hx hb dX8_judge_108 (by decide) ?_
          exact hk31 ((x4 + (1 : Int32)))  hf S (lv_sub hl [1, 2, 3, 4, 0] rfl)
        · have hf := ifn c9 hf
          refine lv_iload (pc := 102) hx hb dX8_judge_102 (lv_at hl 4 rfl) ?_
          cases hf
          exact x_iret (pc := 104) C S dX8_judge_104
      · have hf := ifp c6 hf
        refine lv_bipush (pc := 70) hx hb dX8_judge_70 bc_100 ?_
        refine lv_iload (pc := 72) hx hb dX8_judge_72 (lv_at hl 4 rfl) ?_
        refine lv_iadd (pc := 74) hx hb dX8_judge_74 ?_
        cases hf
        exact x_iret (pc := 75) C S dX8_judge_75
set_option maxRecDepth 100000 in
set_option maxHeartbeats 4000000 in
theorem h_X8_judge_31 (C : Cx p s m args meth c cX8_judge (some .int) 5 RX8 G A) (t_isKept : Int32) (t_work : Int32) (t_kind : Int32) (t_letters : Int32) (t_at : Int32) (t_fault : Int32) (t_back : Int32) (t_waits : Int32) (t_miles : Int32) (t_loads : Int32) (t_bestRound : Int32) (t_bestPlace : Int32) (t_bestAdds : Int32) (t_regret : Int32) (t_z : Int32) (t_s : Nat → Int32) (t_sort : Nat → Int32) (t_items : Nat → Int32) (t_cell : Nat → Int64) (x1 : Int32) (x2 : Int32) (x3 : Int32) : ∀ (n : Nat) (x4 : Int32) {H : Heap} {locs : List Loc} {ls : Array Slot} (hf : lp (fun k x => b_X8_judge_31 x1 x2 x3 t_s t_sort t_items t_cell k x) n x4 = some r) (S : St G A s.heap H locs (w_X8_judge G a_t a_t_s a_t_image a_t_mind a_t_aside a_t_text a_t_read a_t_comes a_t_begins a_t_latest a_t_move a_t_sort a_t_items a_t_cell a_t_carried t_isKept t_work t_kind t_letters t_at t_fault t_back t_waits t_miles t_loads t_bestRound t_bestPlace t_bestAdds t_regret t_z t_s t_sort t_items t_cell)) (hl : lv_has ls 5 [(0, .ref a_t), (1, .int x1), (2, .int x2), (3, .int x3), (4, .int x4)]), W p l e rm_X8_judge s m args below meth c H locs 0 0 (QI G below args s A r (w_X8_judge G a_t a_t_s a_t_image a_t_mind a_t_aside a_t_text a_t_read a_t_comes a_t_begins a_t_latest a_t_move a_t_sort a_t_items a_t_cell a_t_carried t_isKept t_work t_kind t_letters t_at t_fault t_back t_waits t_miles t_loads t_bestRound t_bestPlace t_bestAdds t_regret t_z t_s t_sort t_items t_cell)) (F0 m 31 ls []) := by
  intro n
  induction n with
  | zero =>
    intro x4  H locs ls hf
    cases hf
  | succ n ih =>
    intro x4  H locs ls hf S hl
    have hf : b_X8_judge_31 x1 x2 x3 t_s t_sort t_items t_cell (lp (fun k x => b_X8_judge_31 x1 x2 x3 t_s t_sort t_items t_cell k x) n) x4 = some r := hf
    exact k_X8_judge_31 C t_isKept t_work t_kind t_letters t_at t_fault t_back t_waits t_miles t_loads t_bestRound t_bestPlace t_bestAdds t_regret t_z t_s t_sort t_items t_cell x1 x2 x3 x4  (lp (fun k x => b_X8_judge_31 x1 x2 x3 t_s t_sort t_items t_cell k x) n) (fun x4'  h S hl => ih x4'  h S hl) hf S hl
set_option maxRecDepth 100000 in
set_option maxHeartbeats 4000000 in
theorem c_X8_judge (l : Launch) (G : GE) (a_t a_t_s a_t_image a_t_mind a_t_aside a_t_text a_t_read a_t_comes a_t_begins a_t_latest a_t_move a_t_sort a_t_items a_t_cell a_t_carried : Nat) (t_isKept : Int32) (t_work : Int32) (t_kind : Int32) (t_letters : Int32) (t_at : Int32) (t_fault : Int32) (t_back : Int32) (t_waits : Int32) (t_miles : Int32) (t_loads : Int32) (t_bestRound : Int32) (t_bestPlace : Int32) (t_bestAdds : Int32) (t_regret : Int32) (t_z : Int32) (t_s : Nat → Int32) (t_sort : Nat → Int32) (t_items : Nat → Int32) (t_cell : Nat → Int64) (x1 : Int32) (x2 : Int32) (x3 : Int32) (r : Int32) (hf : f_X8_judge t_s t_sort t_items t_cell x1 x2 x3 = some r) : CI l G yX8_judge kw_X8_judge rm_X8_judge [.ref a_t, .int x1, .int x2, .int x3] (w_X8_judge G a_t a_t_s a_t_image a_t_mind a_t_aside a_t_text a_t_read a_t_comes a_t_begins a_t_latest a_t_move a_t_sort a_t_items a_t_cell a_t_carried t_isKept t_work t_kind t_letters t_at t_fault t_back t_waits t_miles t_loads t_bestRound t_bestPlace t_bestAdds t_regret t_z t_s t_sort t_items t_cell) r (w_X8_judge G a_t a_t_s a_t_image a_t_mind a_t_aside a_t_text a_t_read a_t_comes a_t_begins a_t_latest a_t_move a_t_sort a_t_items a_t_cell a_t_carried t_isKept t_work t_kind t_letters t_at t_fault t_back t_waits t_miles t_loads t_bestRound t_bestPlace t_bestAdds t_regret t_z t_s t_sort t_items t_cell) := by
  refine en_I (cc := cX8_judge) (maxL := 5) (ret := (some .int)) (by decide +kernel) (Nat.le_of_ble_eq_true rfl) ?_
  intro p e s m args below meth c A ls C S hl
  have hl : lv_has ls 5 [(0, .ref a_t), (1, .int x1), (2, .int x2), (3, .int x3)] := hl
  have C : Cx p s m args meth c cX8_judge (some .int) 5 RX8 G A := C
  unfold f_X8_judge at hf
  have hx := C.1
  have hb := C.2.1
  have hown := C.2.2.2.2.1
  have hts := C.2.2.2.2.2.1
  have hN := C.2.2.2.2.2.2.2.2.2.2
  refine lv_iload_n (pc := 0) hx hb dX8_judge_0 rfl (lv_at hl 1 rfl) ?_
  obtain ⟨r1, hq1, hf⟩ := bd_e hf
  refine x_sI (pc := 1) (As := [.int x1]) (rest := []) (isC := []) (ws' := (w_X8_judge G a_t a_t_s a_t_image a_t_mind a_t_aside a_t_text a_t_read a_t_comes a_t_begins a_t_latest a_t_move a_t_sort a_t_items a_t_cell a_t_carried t_isKept t_work t_kind t_letters t_at t_fault t_back t_waits t_miles t_loads t_bestRound t_bestPlace t_bestAdds t_regret t_z t_s t_sort t_items t_cell)) C S (c_X8_isRound l G x1 r1 hq1) (u_X8_judge_X8_isRound_162 hts) rfl (by decide +kernel) [none, none, none, none, none] (by decide +kernel) rfl rfl rfl hl.1 rfl (Nat.le_of_ble_eq_true rfl) dX8_judge_1 (fun H locs S => ?_)
  refine lv_if_eq (tgt := 14) (pc := 4) hx hb dX8_judge_4 (by decide) (fun c2 => ?_) (fun c2 => ?_)
  · have hf := ifp c2 hf
    refine lv_iconst (pc := 14) hx hb dX8_judge_14 ic_m1 ?_
    cases hf
    exact x_iret (pc := 15) C S dX8_judge_15
  · have hf := ifn c2 hf
    refine lv_iload_n (pc := 7) hx hb dX8_judge_7 rfl (lv_at hl 2 rfl) ?_
    obtain ⟨r3, hq3, hf⟩ := bd_e hf
    refine x_sI (pc := 8) (As := [.int x2]) (rest := []) (isC := []) (ws' := (w_X8_judge G a_t a_t_s a_t_image a_t_mind a_t_aside a_t_text a_t_read a_t_comes a_t_begins a_t_latest a_t_move a_t_sort a_t_items a_t_cell a_t_carried t_isKept t_work t_kind t_letters t_at t_fault t_back t_waits t_miles t_loads t_bestRound t_bestPlace t_bestAdds t_regret t_z t_s t_sort t_items t_cell)) C S (c_X8_isTape l G x2 r3 hq3) (u_X8_judge_X8_isTape_285 hts) rfl (by decide +kernel) [none, none, none, none, none] (by decide +kernel) rfl rfl rfl hl.1 rfl (Nat.le_of_ble_eq_true rfl) dX8_judge_8 (fun H locs S => ?_)
    refine lv_if_ne (tgt := 16) (pc := 11) hx hb dX8_judge_11 (by decide) (fun c4 => ?_) (fun c4 => ?_)
    · have hf := ifn c4 hf
      refine lv_aload_n (pc := 16) hx hb dX8_judge_16 rfl (lv_at hl 0 rfl) ?_
      refine x_get (pc := 17) (ci := 8) (T := TX8) (v := .ref a_t_sort) C S 0 rfl rfl inlX8 24 (by decide) rfl qf_8_42 rfl dX8_judge_17 ?_
      refine lv_iload_n (pc := 20) hx hb dX8_judge_20 rfl (lv_at hl 2 rfl) ?_
      obtain ⟨hv5, hf⟩ := gI_e hf
      refine x_iald (pc := 21) C S 2 rfl hv5 dX8_judge_21 ?_
      refine lv_if_le (tgt := 28) (pc := 22) hx hb dX8_judge_22 (by decide) (fun c6 => ?_) (fun c6 => ?_)
      · have hf := ifp c6 hf
        refine lv_iconst (pc := 28) hx hb dX8_judge_28 ic_0 ?_
        refine lv_istore (pc := 29) (lv' := [(4, .int (0 : Int32)), (0, .ref a_t), (1, .int x1), (2, .int x2), (3, .int x3)]) hx hb dX8_judge_29 hl (by decide) rfl (fun ls hl => ?_)
        exact h_X8_judge_31 C (t_isKept) (t_work) (t_kind) (t_letters) (t_at) (t_fault) (t_back) (t_waits) (t_miles) (t_loads) (t_bestRound) (t_bestPlace) (t_bestAdds) (t_regret) (t_z) (t_s) (t_sort) (t_items) (t_cell) (x1) (x2) (x3) fu ((0 : Int32)) hf S (lv_sub hl [1, 2, 3, 4, 0] rfl)
      · have hf := ifn c6 hf
        refine lv_bipush (pc := 25) hx hb dX8_judge_25 bc_m12 ?_
        cases hf
        exact x_iret (pc := 27) C S dX8_judge_27
    · have hf := ifp c4 hf
      refine lv_iconst (pc := 14) hx hb dX8_judge_14 ic_m1 ?_
      cases hf
      exact x_iret (pc := 15) C S dX8_judge_15
end

abbrev rm_X8_late : Room := { frames := 4, cells := 0, slots := 0, locals := 99 }
abbrev kw_X8_late : Cond := .code yX8_late cX8_late 3 (some .int)
abbrev w_X8_late (G : GE) (a_t a_t_s a_t_image a_t_mind a_t_aside a_t_text a_t_read a_t_comes a_t_begins a_t_latest a_t_move a_t_sort a_t_items a_t_cell a_t_carried : Nat) (t_isKept : Int32) (t_work : Int32) (t_kind : Int32) (t_letters : Int32) (t_at : Int32) (t_fault : Int32) (t_back : Int32) (t_waits : Int32) (t_miles : Int32) (t_loads : Int32) (t_bestRound : Int32) (t_bestPlace : Int32) (t_bestAdds : Int32) (t_regret : Int32) (t_z : Int32) (t_s : Nat → Int32) (t_comes : Nat → Int32) (t_begins : Nat → Int32) : va_W := [(a_t, ob 8 [.ref a_t_s, .ref a_t_image, .ref a_t_mind, .ref a_t_aside, .int t_isKept, .int t_work, .int t_kind, .ref a_t_text, .ref a_t_read, .int t_letters, .int t_at, .int t_fault, .ref a_t_comes, .ref a_t_begins, .ref a_t_latest, .int t_back, .int t_waits, .int t_miles, .int t_loads, .int t_bestRound, .int t_bestPlace, .int t_bestAdds, .int t_regret, .ref a_t_move, .ref a_t_sort, .ref a_t_items, .ref a_t_cell, .ref a_t_carried, .int t_z]), (a_t_s, aI G 258 t_s), (a_t_comes, aI G 16 t_comes), (a_t_begins, aI G 16 t_begins)]
theorem u_X8_late_X8_isRound_162 {s : State} {args : Array Value} (hts : ∀ w ∈ WU, w.before args s = true) : CallB rm_X8_late s args RX8 162 yX8_isRound cX8_isRound 1 (some .boolean) (kw_X8_isRound :: WU) rm_X8_isRound 0 0 1 ∧ (Cond.static yX8_isRound).before args s = true := va_cwS 1 hts (gS qm_8_162 qs_X8_isRound qn_8 qc_X8_isRound) rfl rfl rfl (by decide +kernel) ⟨Nat.le_of_ble_eq_true rfl, Nat.le_of_ble_eq_true rfl⟩
theorem u_X8_late_X8_isIn_55 {s : State} {args : Array Value} (hts : ∀ w ∈ WU, w.before args s = true) : CallB rm_X8_late s args RX8 55 yX8_isIn cX8_isIn 3 (some .boolean) (kw_X8_isIn :: WU) rm_X8_isIn 0 0 3 ∧ (Cond.static yX8_isIn).before args s = true := va_cwS 3 hts (gS qm_8_55 qs_X8_isIn qn_8 qc_X8_isIn) rfl rfl rfl (by decide +kernel) ⟨Nat.le_of_ble_eq_true rfl, Nat.le_of_ble_eq_true rfl⟩
theorem u_X8_late_X8_roundAt_59 {s : State} {args : Array Value} (hts : ∀ w ∈ WU, w.before args s = true) : CallW rm_X8_late s args RX8 RX8 59 yX8_roundAt cX8_roundAt 3 (some .int) (kw_X8_roundAt :: WU) rm_X8_roundAt 0 0 2 := cwV 2 hts (gV qm_8_59 qi_X8_roundAt ql_X8_roundAt qn_8 qc_X8_roundAt) rfl rfl rfl (by decide +kernel) ⟨Nat.le_of_ble_eq_true rfl, Nat.le_of_ble_eq_true rfl⟩
theorem u_X8_late_X8_lateBy_101 {s : State} {args : Array Value} (hts : ∀ w ∈ WU, w.before args s = true) : CallW rm_X8_late s args RX8 RX8 101 yX8_lateBy cX8_lateBy 8 (some .int) (kw_X8_lateBy :: WU) rm_X8_lateBy 0 0 2 := cwV 2 hts (gV qm_8_101 qi_X8_lateBy ql_X8_lateBy qn_8 qc_X8_lateBy) rfl rfl rfl (by decide +kernel) ⟨Nat.le_of_ble_eq_true rfl, Nat.le_of_ble_eq_true rfl⟩
section
variable {p : Program} {l : Launch} {e : Env} {s : State} {m : MethodId} {args : Array Value} {below : List Frame} {meth : Method} {c : Code} {A : Nat → Prop} {G : GE} {a_t a_t_s a_t_image a_t_mind a_t_aside a_t_text a_t_read a_t_comes a_t_begins a_t_latest a_t_move a_t_sort a_t_items a_t_cell a_t_carried : Nat} {r : Int32} {z_t_comes : Nat → Int32} {z_t_begins : Nat → Int32} {z_t_back : Int32} {z_t_waits : Int32} {z_t_loads : Int32}
set_option maxRecDepth 100000 in
set_option maxHeartbeats 4000000 in
theorem c_X8_late (l : Launch) (G : GE) (a_t a_t_s a_t_image a_t_mind a_t_aside a_t_text a_t_read a_t_comes a_t_begins a_t_latest a_t_move a_t_sort a_t_items a_t_cell a_t_carried : Nat) (t_isKept : Int32) (t_work : Int32) (t_kind : Int32) (t_letters : Int32) (t_at : Int32) (t_fault : Int32) (t_back : Int32) (t_waits : Int32) (t_miles : Int32) (t_loads : Int32) (t_bestRound : Int32) (t_bestPlace : Int32) (t_bestAdds : Int32) (t_regret : Int32) (t_z : Int32) (t_s : Nat → Int32) (t_comes : Nat → Int32) (t_begins : Nat → Int32) (x1 : Int32) (x2 : Int32) (r : Int32) (z_t_comes : Nat → Int32) (z_t_begins : Nat → Int32) (z_t_back : Int32) (z_t_waits : Int32) (z_t_loads : Int32) (hf : f_X8_late t_s t_comes t_begins t_back t_waits t_loads x1 x2 = some (r, z_t_comes, z_t_begins, z_t_back, z_t_waits, z_t_loads)) : CI l G yX8_late kw_X8_late rm_X8_late [.ref a_t, .int x1, .int x2] (w_X8_late G a_t a_t_s a_t_image a_t_mind a_t_aside a_t_text a_t_read a_t_comes a_t_begins a_t_latest a_t_move a_t_sort a_t_items a_t_cell a_t_carried t_isKept t_work t_kind t_letters t_at t_fault t_back t_waits t_miles t_loads t_bestRound t_bestPlace t_bestAdds t_regret t_z t_s t_comes t_begins) r (w_X8_late G a_t a_t_s a_t_image a_t_mind a_t_aside a_t_text a_t_read a_t_comes a_t_begins a_t_latest a_t_move a_t_sort a_t_items a_t_cell a_t_carried t_isKept t_work t_kind t_letters t_at t_fault z_t_back z_t_waits t_miles z_t_loads t_bestRound t_bestPlace t_bestAdds t_regret t_z t_s z_t_comes z_t_begins) := by
  refine en_I (cc := cX8_late) (maxL := 3) (ret := (some .int)) (by decide +kernel) (Nat.le_of_ble_eq_true rfl) ?_
  intro p e s m args below meth c A ls C S hl
  have hl : lv_has ls 3 [(0, .ref a_t), (1, .int x1), (2, .int x2)] := hl
  have C : Cx p s m args meth c cX8_late (some .int) 3 RX8 G A := C
  unfold f_X8_late at hf
  have hx := C.1
  have hb := C.2.1
  have hown := C.2.2.2.2.1
  have hts := C.2.2.2.2.2.1
  have hN := C.2.2.2.2.2.2.2.2.2.2
  refine lv_iload_n (pc := 0) hx hb dX8_late_0 rfl (lv_at hl 1 rfl) ?_
  obtain ⟨r1, hq1, hf⟩ := bd_e hf
  refine x_sI (pc := 1) (As := [.int x1]) (rest := []) (isC := []) (ws' := (w_X8_late G a_t a_t_s a_t_image a_t_mind a_t_aside a_t_text a_t_read a_t_comes a_t_begins a_t_latest a_t_move a_t_sort a_t_items a_t_cell a_t_carried t_isKept t_work t_kind t_letters t_at t_fault t_back t_waits t_miles t_loads t_bestRound t_bestPlace t_bestAdds t_regret t_z t_s t_comes t_begins)) C S (c_X8_isRound l G x1 r1 hq1) (u_X8_late_X8_isRound_162 hts) rfl (by decide +kernel) [none, none, none, none] (by decide +kernel) rfl rfl rfl hl.1 rfl (Nat.le_of_ble_eq_true rfl) dX8_late_1 (fun H locs S => ?_)
  refine lv_if_ne (tgt := 9) (pc := 4) hx hb dX8_late_4 (by decide) (fun c2 => ?_) (fun c2 => ?_)
  · have hf := ifn c2 hf
    refine lv_iload_n (pc := 9) hx hb dX8_late_9 rfl (lv_at hl 2 rfl) ?_
    refine lv_iconst (pc := 10) hx hb dX8_late_10 ic_0 ?_
    refine lv_sipush (pc := 11) hx hb dX8_late_11 sc_1999 ?_
    obtain ⟨r3, hq3, hf⟩ := bd_e hf
    refine x_sI (pc := 14) (As := [.int x2, .int (0 : Int32), .int (1999 : Int32)]) (rest := []) (isC := []) (ws' := (w_X8_late G a_t a_t_s a_t_image a_t_mind a_t_aside a_t_text a_t_read a_t_comes a_t_begins a_t_latest a_t_move a_t_sort a_t_items a_t_cell a_t_carried t_isKept t_work t_kind t_letters t_at t_fault t_back t_waits t_miles t_loads t_bestRound t_bestPlace t_bestAdds t_regret t_z t_s t_comes t_begins)) C S (c_X8_isIn l G x2 (0 : Int32) (1999 : Int32) r3 hq3) (u_X8_late_X8_isIn_55 hts) rfl (by decide +kernel) [none, none, none, none] (by decide +kernel) rfl rfl rfl hl.1 rfl (Nat.le_of_ble_eq_true rfl) dX8_late_14 (fun H locs S => ?_)
    refine lv_if_ne (tgt := 23) (pc := 17) hx hb dX8_late_17 (by decide) (fun c4 => ?_) (fun c4 => ?_)
    · have hf := ifn c4 hf
      refine lv_aload_n (pc := 23) hx hb dX8_late_23 rfl (lv_at hl 0 rfl) ?_
      refine lv_iload_n (pc := 24) hx hb dX8_late_24 rfl (lv_at hl 1 rfl) ?_
      refine lv_iconst (pc := 25) hx hb dX8_late_25 ic_3 ?_
      obtain ⟨r5, hq5, hf⟩ := bd_e hf
      refine x_vI (pc := 26) (As := [.int x1, .int (3 : Int32)]) (rest := []) (isC := [0, 1]) (ws' := (w_X8_late G a_t a_t_s a_t_image a_t_mind a_t_aside a_t_text a_t_read a_t_comes a_t_begins a_t_latest a_t_move a_t_sort a_t_items a_t_cell a_t_carried t_isKept t_work t_kind t_letters t_at t_fault t_back t_waits t_miles t_loads t_bestRound t_bestPlace t_bestAdds t_regret t_z t_s t_comes t_begins)) C S (c_X8_roundAt l G a_t a_t_s a_t_image a_t_mind a_t_aside a_t_text a_t_read a_t_comes a_t_begins a_t_latest a_t_move a_t_sort a_t_items a_t_cell a_t_carried t_isKept t_work t_kind t_letters t_at t_fault t_back t_waits t_miles t_loads t_bestRound t_bestPlace t_bestAdds t_regret t_z t_s x1 (3 : Int32) r5 hq5) (u_X8_late_X8_roundAt_59 hts) (ci := 8) rfl 0 rfl rfl (by decide +kernel) [some 0, some 1, none, none] (by decide +kernel) rfl rfl rfl hl.1 rfl (Nat.le_of_ble_eq_true rfl) dX8_late_26 (fun H locs S => ?_)
      refine lv_if_ne (tgt := 37) (pc := 29) hx hb dX8_late_29 (by decide) (fun c6 => ?_) (fun c6 => ?_)
      · have hf := ifn c6 hf
        refine lv_aload_n (pc := 37) hx hb dX8_late_37 rfl (lv_at hl 0 rfl) ?_
        refine lv_iload_n (pc := 38) hx hb dX8_late_38 rfl (lv_at hl 1 rfl) ?_
        refine lv_iload_n (pc := 39) hx hb dX8_late_39 rfl (lv_at hl 2 rfl) ?_
        obtain ⟨⟨r7, o7_t_comes, o7_t_begins, o7_t_back, o7_t_waits, o7_t_loads⟩, hq7, hf⟩ := bd_e hf
        refine x_vI (pc := 40) (As := [.int x1, .int x2]) (rest := []) (isC := [0, 1, 2, 3]) (ws' := (w_X8_late G a_t a_t_s a_t_image a_t_mind a_t_aside a_t_text a_t_read a_t_comes a_t_begins a_t_latest a_t_move a_t_sort a_t_items a_t_cell a_t_carried t_isKept t_work t_kind t_letters t_at t_fault o7_t_back o7_t_waits t_miles o7_t_loads t_bestRound t_bestPlace t_bestAdds t_regret t_z t_s o7_t_comes o7_t_begins)) C S (c_X8_lateBy l G a_t a_t_s a_t_image a_t_mind a_t_aside a_t_text a_t_read a_t_comes a_t_begins a_t_latest a_t_move a_t_sort a_t_items a_t_cell a_t_carried t_isKept t_work t_kind t_letters t_at t_fault t_back t_waits t_miles t_loads t_bestRound t_bestPlace t_bestAdds t_regret t_z t_s t_comes t_begins x1 x2 r7 o7_t_comes o7_t_begins o7_t_back o7_t_waits o7_t_loads hq7) (u_X8_late_X8_lateBy_101 hts) (ci := 8) rfl 0 rfl rfl (by decide +kernel) [some 0, some 1, some 2, some 3] (by decide +kernel) rfl rfl rfl hl.1 rfl (Nat.le_of_ble_eq_true rfl) dX8_late_40 (fun H locs S => ?_)
        cases hf
        exact x_iret (pc := 43) C S dX8_late_43
      · have hf := ifp c6 hf
        refine lv_bipush (pc := 32) hx hb dX8_late_32 bc_m5 ?_
        refine lv_goto (tgt := 43) (pc := 34) hx hb dX8_late_34 (by decide) ?_
        cases hf
        exact x_iret (pc := 43) C S dX8_late_43
    · have hf := ifp c4 hf
      refine lv_bipush (pc := 20) hx hb dX8_late_20 bc_m2 ?_
      cases hf
      exact x_iret (pc := 22) C S dX8_late_22
  · have hf := ifp c2 hf
    refine lv_iconst (pc := 7) hx hb dX8_late_7 ic_m1 ?_
    cases hf
    exact x_iret (pc := 8) C S dX8_late_8
end

abbrev rm_X8_latest : Room := { frames := 4, cells := 0, slots := 0, locals := 99 }
abbrev kw_X8_latest : Cond := .code yX8_latest cX8_latest 6 none
abbrev w_X8_latest (G : GE) (a_t a_t_s a_t_image a_t_mind a_t_aside a_t_text a_t_read a_t_comes a_t_begins a_t_latest a_t_move a_t_sort a_t_items a_t_cell a_t_carried : Nat) (t_isKept : Int32) (t_work : Int32) (t_kind : Int32) (t_letters : Int32) (t_at : Int32) (t_fault : Int32) (t_back : Int32) (t_waits : Int32) (t_miles : Int32) (t_loads : Int32) (t_bestRound : Int32) (t_bestPlace : Int32) (t_bestAdds : Int32) (t_regret : Int32) (t_z : Int32) (t_s : Nat → Int32) (t_comes : Nat → Int32) (t_begins : Nat → Int32) (t_latest : Nat → Int32) : va_W := [(a_t, ob 8 [.ref a_t_s, .ref a_t_image, .ref a_t_mind, .ref a_t_aside, .int t_isKept, .int t_work, .int t_kind, .ref a_t_text, .ref a_t_read, .int t_letters, .int t_at, .int t_fault, .ref a_t_comes, .ref a_t_begins, .ref a_t_latest, .int t_back, .int t_waits, .int t_miles, .int t_loads, .int t_bestRound, .int t_bestPlace, .int t_bestAdds, .int t_regret, .ref a_t_move, .ref a_t_sort, .ref a_t_items, .ref a_t_cell, .ref a_t_carried, .int t_z]), (a_t_s, aI G 258 t_s), (a_t_comes, aI G 16 t_comes), (a_t_begins, aI G 16 t_begins), (a_t_latest, aI G 16 t_latest)]
theorem u_X8_latest_X8_lateBy_101 {s : State} {args : Array Value} (hts : ∀ w ∈ WU, w.before args s = true) : CallW rm_X8_latest s args RX8 RX8 101 yX8_lateBy cX8_lateBy 8 (some .int) (kw_X8_lateBy :: WU) rm_X8_lateBy 0 0 2 := cwV 2 hts (gV qm_8_101 qi_X8_lateBy ql_X8_lateBy qn_8 qc_X8_lateBy) rfl rfl rfl (by decide +kernel) ⟨Nat.le_of_ble_eq_true rfl, Nat.le_of_ble_eq_true rfl⟩
theorem u_X8_latest_X8_roundAt_59 {s : State} {args : Array Value} (hts : ∀ w ∈ WU, w.before args s = true) : CallW rm_X8_latest s args RX8 RX8 59 yX8_roundAt cX8_roundAt 3 (some .int) (kw_X8_roundAt :: WU) rm_X8_roundAt 0 0 2 := cwV 2 hts (gV qm_8_59 qi_X8_roundAt ql_X8_roundAt qn_8 qc_X8_roundAt) rfl rfl rfl (by decide +kernel) ⟨Nat.le_of_ble_eq_true rfl, Nat.le_of_ble_eq_true rfl⟩
theorem u_X8_latest_X8_inRow_63 {s : State} {args : Array Value} (hts : ∀ w ∈ WU, w.before args s = true) : CallW rm_X8_latest s args RX8 RX8 63 yX8_inRow cX8_inRow 3 (some .int) (kw_X8_inRow :: WU) rm_X8_inRow 0 0 2 := cwV 2 hts (gV qm_8_63 qi_X8_inRow ql_X8_inRow qn_8 qc_X8_inRow) rfl rfl rfl (by decide +kernel) ⟨Nat.le_of_ble_eq_true rfl, Nat.le_of_ble_eq_true rfl⟩
theorem u_X8_latest_X8_between_88 {s : State} {args : Array Value} (hts : ∀ w ∈ WU, w.before args s = true) : CallW rm_X8_latest s args RX8 RX8 88 yX8_between cX8_between 3 (some .int) (kw_X8_between :: WU) rm_X8_between 0 0 2 := cwV 2 hts (gV qm_8_88 qi_X8_between ql_X8_between qn_8 qc_X8_between) rfl rfl rfl (by decide +kernel) ⟨Nat.le_of_ble_eq_true rfl, Nat.le_of_ble_eq_true rfl⟩
theorem u_X8_latest_X8_fromDepot_85 {s : State} {args : Array Value} (hts : ∀ w ∈ WU, w.before args s = true) : CallW rm_X8_latest s args RX8 RX8 85 yX8_fromDepot cX8_fromDepot 2 (some .int) (kw_X8_fromDepot :: WU) rm_X8_fromDepot 0 0 1 := cwV 1 hts (gV qm_8_85 qi_X8_fromDepot ql_X8_fromDepot qn_8 qc_X8_fromDepot) rfl rfl rfl (by decide +kernel) ⟨Nat.le_of_ble_eq_true rfl, Nat.le_of_ble_eq_true rfl⟩
theorem u_X8_latest_X8_stopAt_78 {s : State} {args : Array Value} (hts : ∀ w ∈ WU, w.before args s = true) : CallW rm_X8_latest s args RX8 RX8 78 yX8_stopAt cX8_stopAt 3 (some .int) (kw_X8_stopAt :: WU) rm_X8_stopAt 0 0 2 := cwV 2 hts (gV qm_8_78 qi_X8_stopAt ql_X8_stopAt qn_8 qc_X8_stopAt) rfl rfl rfl (by decide +kernel) ⟨Nat.le_of_ble_eq_true rfl, Nat.le_of_ble_eq_true rfl⟩
section
variable {p : Program} {l : Launch} {e : Env} {s : State} {m : MethodId} {args : Array Value} {below : List Frame} {meth : Method} {c : Code} {A : Nat → Prop} {G : GE} {a_t a_t_s a_t_image a_t_mind a_t_aside a_t_text a_t_read a_t_comes a_t_begins a_t_latest a_t_move a_t_sort a_t_items a_t_cell a_t_carried : Nat} {z_t_comes : Nat → Int32} {z_t_begins : Nat → Int32} {z_t_latest : Nat → Int32} {z_t_back : Int32} {z_t_waits : Int32} {z_t_loads : Int32}
set_option maxRecDepth 100000 in
set_option maxHeartbeats 4000000 in
theorem k_X8_latest_76 (C : Cx p s m args meth c cX8_latest none 6 RX8 G A) (t_isKept : Int32) (t_work : Int32) (t_kind : Int32) (t_letters : Int32) (t_at : Int32) (t_fault : Int32) (t_back : Int32) (t_waits : Int32) (t_miles : Int32) (t_loads : Int32) (t_bestRound : Int32) (t_bestPlace : Int32) (t_bestAdds : Int32) (t_regret : Int32) (t_z : Int32) (t_s : Nat → Int32) (t_comes : Nat → Int32) (t_begins : Nat → Int32) (t_latest : Nat → Int32) (x1 : Int32) (x2 : Int32) (x3 : Int32) (x4 : Int32) (y0 : Int32) (k18 : Int32 × (Nat → Int32) → Option ((Nat → Int32) × (Nat → Int32) × (Nat → Int32) × Int32 × Int32 × Int32)) (hk18 : ∀ {H : Heap} {locs : List Loc} {ls : Array Slot} (x3' : Int32) (t_latest' : Nat → Int32), k18 (x3', t_latest') = some (z_t_comes, z_t_begins, z_t_latest, z_t_back, z_t_waits, z_t_loads) → St G A s.heap H locs (w_X8_latest G a_t a_t_s a_t_image a_t_mind a_t_aside a_t_text a_t_read a_t_comes a_t_begins a_t_latest a_t_move a_t_sort a_t_items a_t_cell a_t_carried t_isKept t_work t_kind t_letters t_at t_fault t_back t_waits t_miles t_loads t_bestRound t_bestPlace t_bestAdds t_regret t_z t_s t_comes t_begins t_latest') → lv_has ls 6 [(0, .ref a_t), (1, .int x1), (2, .int x2), (3, .int x3')] → W p l e rm_X8_latest s m args below meth c H locs 0 0 (QV G below args s A (w_X8_latest G a_t a_t_s a_t_image a_t_mind a_t_aside a_t_text a_t_read a_t_comes a_t_begins a_t_latest a_t_move a_t_sort a_t_items a_t_cell a_t_carried t_isKept t_work t_kind t_letters t_at t_fault z_t_back z_t_waits t_miles z_t_loads t_bestRound t_bestPlace t_bestAdds t_regret t_z t_s z_t_comes z_t_begins z_t_latest)) (F0 m 18 ls [])) {H : Heap} {locs : List Loc} {ls : Array Slot} (hf : b_X8_latest_76 k18 x1 x2 x3 x4 y0 t_s t_comes t_begins t_latest t_back t_waits t_loads = some (z_t_comes, z_t_begins, z_t_latest, z_t_back, z_t_waits, z_t_loads)) (S : St G A s.heap H locs (w_X8_latest G a_t a_t_s a_t_image a_t_mind a_t_aside a_t_text a_t_read a_t_comes a_t_begins a_t_latest a_t_move a_t_sort a_t_items a_t_cell a_t_carried t_isKept t_work t_kind t_letters t_at t_fault t_back t_waits t_miles t_loads t_bestRound t_bestPlace t_bestAdds t_regret t_z t_s t_comes t_begins t_latest)) (hl : lv_has ls 6 [(0, .ref a_t), (1, .int x1), (2, .int x2), (3, .int x3), (4, .int x4)]) : W p l e rm_X8_latest s m args below meth c H locs 0 0 (QV G below args s A (w_X8_latest G a_t a_t_s a_t_image a_t_mind a_t_aside a_t_text a_t_read a_t_comes a_t_begins a_t_latest a_t_move a_t_sort a_t_items a_t_cell a_t_carried t_isKept t_work t_kind t_letters t_at t_fault z_t_back z_t_waits t_miles z_t_loads t_bestRound t_bestPlace t_bestAdds t_regret t_z t_s z_t_comes z_t_begins z_t_latest)) (F0 m 76 ls [.int y0]) := by
  unfold b_X8_latest_76 at hf
  have hx := C.1
  have hb := C.2.1
  have hown := C.2.2.2.2.1
  have hts := C.2.2.2.2.2.1
  have hN := C.2.2.2.2.2.2.2.2.2.2
  refine lv_istore (pc := 76) (lv' := [(5, .int y0), (0, .ref a_t), (1, .int x1), (2, .int x2), (3, .int x3), (4, .int x4)]) hx hb dX8_latest_76 hl (by decide) rfl (fun ls hl => ?_)
  refine lv_aload_n (pc := 78) hx hb dX8_latest_78 rfl (lv_at hl 1 rfl) ?_
  refine x_get (pc := 79) (ci := 8) (T := TX8) (v := .ref a_t_latest) C S 0 rfl rfl inlX8 14 (by decide) rfl qf_8_36 rfl dX8_latest_79 ?_
  refine lv_iload_n (pc := 82) hx hb dX8_latest_82 rfl (lv_at hl 4 rfl) ?_
  refine lv_aload_n (pc := 83) hx hb dX8_latest_83 rfl (lv_at hl 1 rfl) ?_
  refine lv_iload (pc := 84) hx hb dX8_latest_84 (lv_at hl 5 rfl) ?_
  refine lv_iconst (pc := 86) hx hb dX8_latest_86 ic_4 ?_
  obtain ⟨r1, hq1, hf⟩ := bd_e hf
  refine x_vI (pc := 87) (As := [.int x4, .int (4 : Int32)]) (rest := [.int x3, .ref a_t_latest]) (isC := [0, 1]) (ws' := (w_X8_latest G a_t a_t_s a_t_image a_t_mind a_t_aside a_t_text a_t_read a_t_comes a_t_begins a_t_latest a_t_move a_t_sort a_t_items a_t_cell a_t_carried t_isKept t_work t_kind t_letters t_at t_fault t_back t_waits t_miles t_loads t_bestRound t_bestPlace t_bestAdds t_regret t_z t_s t_comes t_begins t_latest)) C S (c_X8_stopAt l G a_t a_t_s a_t_image a_t_mind a_t_aside a_t_text a_t_read a_t_comes a_t_begins a_t_latest a_t_move a_t_sort a_t_items a_t_cell a_t_carried t_isKept t_work t_kind t_letters t_at t_fault t_back t_waits t_miles t_loads t_bestRound t_bestPlace t_bestAdds t_regret t_z t_s x4 (4 : Int32) r1 hq1) (u_X8_latest_X8_stopAt_78 hts) (ci := 8) rfl 0 rfl rfl (by decide +kernel) [some 0, some 1, none, none, none] (by decide +kernel) rfl rfl rfl hl.1 rfl (Nat.le_of_ble_eq_true rfl) dX8_latest_87 (fun H locs S => ?_)
  refine lv_iload (pc := 90) hx hb dX8_latest_90 (lv_at hl 0 rfl) ?_
  refine lv_aload_n (pc := 92) hx hb dX8_latest_92 rfl (lv_at hl 1 rfl) ?_
  refine lv_iload (pc := 93) hx hb dX8_latest_93 (lv_at hl 5 rfl) ?_
  refine lv_iconst (pc := 95) hx hb dX8_latest_95 ic_5 ?_
  obtain ⟨r2, hq2, hf⟩ := bd_e hf
  refine x_vI (pc := 96) (As := [.int x4, .int (5 : Int32)]) (rest := [.int y0, .int r1, .int x3, .ref a_t_latest]) (isC := [0, 1]) (ws' := (w_X8_latest G a_t a_t_s a_t_image a_t_mind a_t_aside a_t_text a_t_read a_t_comes a_t_begins a_t_latest a_t_move a_t_sort a_t_items a_t_cell a_t_carried t_isKept t_work t_kind t_letters t_at t_fault t_back t_waits t_miles t_loads t_bestRound t_bestPlace t_bestAdds t_regret t_z t_s t_comes t_begins t_latest)) C S (c_X8_stopAt l G a_t a_t_s a_t_image a_t_mind a_t_aside a_t_text a_t_read a_t_comes a_t_begins a_t_latest a_t_move a_t_sort a_t_items a_t_cell a_t_carried t_isKept t_work t_kind t_letters t_at t_fault t_back t_waits t_miles t_loads t_bestRound t_bestPlace t_bestAdds t_regret t_z t_s x4 (5 : Int32) r2 hq2) (u_X8_latest_X8_stopAt_78 hts) (ci := 8) rfl 0 rfl rfl (by decide +kernel) [some 0, some 1, none, none, none] (by decide +kernel) rfl rfl rfl hl.1 rfl (Nat.le_of_ble_eq_true rfl) dX8_latest_96 (fun H locs S => ?_)
  refine lv_isub (pc := 99) hx hb dX8_latest_99 ?_
  refine x_min (pc := 100) C hl.1 qm_8_108 qs_min qn_Math qc_min (Nat.le_of_ble_eq_true rfl) (Nat.le_of_ble_eq_true rfl) dX8_latest_100 ?_
  obtain ⟨hv3, hf⟩ := gI_e hf
  refine x_iast (pc := 103) (ws' := (w_X8_latest G a_t a_t_s a_t_image a_t_mind a_t_aside a_t_text a_t_read a_t_comes a_t_begins a_t_latest a_t_move a_t_sort a_t_items a_t_cell a_t_carried t_isKept t_work t_kind t_letters t_at t_fault t_back t_waits t_miles t_loads t_bestRound t_bestPlace t_bestAdds t_regret t_z t_s t_comes t_begins (upd t_latest x3.toNatClampNeg (mmin r1 (y0 - r2))))) C S 4 rfl hv3 rfl dX8_latest_103 (fun H locs S => ?_)
  refine lv_iinc (pc := 104) (v := (x3 + (-1 : Int32))) (lv' := [(3, .int (x3 + (-1 : Int32))), (5, .int y0), (0, .ref a_t), (1, .int x1), (2, .int x2), (4, .int x4)]) hx hb dX8_latest_104 hl (k := 4) rfl (congrArg (fun z => x3 + z) ic_m1) (by decide) rfl (fun ls hl => ?_)
  refine lv_goto (tgt := 18) (pc := 107) hx hb dX8_latest_107 (by decide) ?_
  exact hk18 ((x3 + (-1 : Int32))) ((upd t_latest x3.toNatClampNeg (mmin r1 (y0 - r2))))  hf S (lv_sub hl [2, 3, 4, 0] rfl)
set_option maxRecDepth 100000 in
set_option maxHeartbeats 4000000 in
theorem k_X8_latest_18 (C : Cx p s m args meth c cX8_latest none 6 RX8 G A) (t_isKept : Int32) (t_work : Int32) (t_kind : Int32) (t_letters : Int32) (t_at : Int32) (t_fault : Int32) (t_back : Int32) (t_waits : Int32) (t_miles : Int32) (t_loads : Int32) (t_bestRound : Int32) (t_bestPlace : Int32) (t_bestAdds : Int32) (t_regret : Int32) (t_z : Int32) (t_s : Nat → Int32) (t_comes : Nat → Int32) (t_begins : Nat → Int32) (t_latest : Nat → Int32) (x1 : Int32) (x2 : Int32) (x3 : Int32) (k18 : Int32 × (Nat → Int32) → Option ((Nat → Int32) × (Nat → Int32) × (Nat → Int32) × Int32 × Int32 × Int32)) (hk18 : ∀ {H : Heap} {locs : List Loc} {ls : Array Slot} (x3' : Int32) (t_latest' : Nat → Int32), k18 (x3', t_latest') = some (z_t_comes, z_t_begins, z_t_latest, z_t_back, z_t_waits, z_t_loads) → St G A s.heap H locs (w_X8_latest G a_t a_t_s a_t_image a_t_mind a_t_aside a_t_text a_t_read a_t_comes a_t_begins a_t_latest a_t_move a_t_sort a_t_items a_t_cell a_t_carried t_isKept t_work t_kind t_letters t_at t_fault t_back t_waits t_miles t_loads t_bestRound t_bestPlace t_bestAdds t_regret t_z t_s t_comes t_begins t_latest') → lv_has ls 6 [(0, .ref a_t), (1, .int x1), (2, .int x2), (3, .int x3')] → W p l e rm_X8_latest s m args below meth c H locs 0 0 (QV G below args s A (w_X8_latest G a_t a_t_s a_t_image a_t_mind a_t_aside a_t_text a_t_read a_t_comes a_t_begins a_t_latest a_t_move a_t_sort a_t_items a_t_cell a_t_carried t_isKept t_work t_kind t_letters t_at t_fault z_t_back z_t_waits t_miles z_t_loads t_bestRound t_bestPlace t_bestAdds t_regret t_z t_s z_t_comes z_t_begins z_t_latest)) (F0 m 18 ls [])) {H : Heap} {locs : List Loc} {ls : Array Slot} (hf : b_X8_latest_18 x1 x2 t_s t_comes t_begins t_back t_waits t_loads k18 x3 t_latest = some (z_t_comes, z_t_begins, z_t_latest, z_t_back, z_t_waits, z_t_loads)) (S : St G A s.heap H locs (w_X8_latest G a_t a_t_s a_t_image a_t_mind a_t_aside a_t_text a_t_read a_t_comes a_t_begins a_t_latest a_t_move a_t_sort a_t_items a_t_cell a_t_carried t_isKept t_work t_kind t_letters t_at t_fault t_back t_waits t_miles t_loads t_bestRound t_bestPlace t_bestAdds t_regret t_z t_s t_comes t_begins t_latest)) (hl : lv_has ls 6 [(0, .ref a_t), (1, .int x1), (2, .int x2), (3, .int x3)]) : W p l e rm_X8_latest s m args below meth c H locs 0 0 (QV G below args s A (w_X8_latest G a_t a_t_s a_t_image a_t_mind a_t_aside a_t_text a_t_read a_t_comes a_t_begins a_t_latest a_t_move a_t_sort a_t_items a_t_cell a_t_carried t_isKept t_work t_kind t_letters t_at t_fault z_t_back z_t_waits t_miles z_t_loads t_bestRound t_bestPlace t_bestAdds t_regret t_z t_s z_t_comes z_t_begins z_t_latest)) (F0 m 18 ls []) := by
  unfold b_X8_latest_18 at hf
  have hx := C.1
  have hb := C.2.1
  have hown := C.2.2.2.2.1
  have hts := C.2.2.2.2.2.1
  have hN := C.2.2.2.2.2.2.2.2.2.2
  refine lv_iload_n (pc := 18) hx hb dX8_latest_18 rfl (lv_at hl 3 rfl) ?_
  refine lv_if_lt (tgt := 110) (pc := 19) hx hb dX8_latest_19 (by decide) (fun c1 => ?_) (fun c1 => ?_)
  · have hf := ifp c1 hf
    cases hf
    exact x_vret (pc := 110) C S dX8_latest_110
  · have hf := ifn c1 hf
    refine lv_aload_n (pc := 22) hx hb dX8_latest_22 rfl (lv_at hl 0 rfl) ?_
    refine lv_iload_n (pc := 23) hx hb dX8_latest_23 rfl (lv_at hl 1 rfl) ?_
    refine lv_iload_n (pc := 24) hx hb dX8_latest_24 rfl (lv_at hl 3 rfl) ?_
    obtain ⟨r2, hq2, hf⟩ := bd_e hf
    refine x_vI (pc := 25) (As := [.int x1, .int x3]) (rest := []) (isC := [0, 1]) (ws' := (w_X8_latest G a_t a_t_s a_t_image a_t_mind a_t_aside a_t_text a_t_read a_t_comes a_t_begins a_t_latest a_t_move a_t_sort a_t_items a_t_cell a_t_carried t_isKept t_work t_kind t_letters t_at t_fault t_back t_waits t_miles t_loads t_bestRound t_bestPlace t_bestAdds t_regret t_z t_s t_comes t_begins t_latest)) C S (c_X8_inRow l G a_t a_t_s a_t_image a_t_mind a_t_aside a_t_text a_t_read a_t_comes a_t_begins a_t_latest a_t_move a_t_sort a_t_items a_t_cell a_t_carried t_isKept t_work t_kind t_letters t_at t_fault t_back t_waits t_miles t_loads t_bestRound t_bestPlace t_bestAdds t_regret t_z t_s x1 x3 r2 hq2) (u_X8_latest_X8_inRow_63 hts) (ci := 8) rfl 0 rfl rfl (by decide +kernel) [some 0, some 1, none, none, none] (by decide +kernel) rfl rfl rfl hl.1 rfl (Nat.le_of_ble_eq_true rfl) dX8_latest_25 (fun H locs S => ?_)
    refine lv_istore (pc := 28) (lv' := [(4, .int r2), (0, .ref a_t), (1, .int x1), (2, .int x2), (3, .int x3)]) hx hb dX8_latest_28 hl (by decide) rfl (fun ls hl => ?_)
    refine lv_iload_n (pc := 30) hx hb dX8_latest_30 rfl (lv_at hl 4 rfl) ?_
    refine lv_iload_n (pc := 31) hx hb dX8_latest_31 rfl (lv_at hl 3 rfl) ?_
    refine lv_iconst (pc := 32) hx hb dX8_latest_32 ic_1 ?_
    refine lv_isub (pc := 33) hx hb dX8_latest_33 ?_
    refine lv_icmp_ne (tgt := 53) (pc := 34) hx hb dX8_latest_34 (by decide) (fun c3 => ?_) (fun c3 => ?_)
    · have hf := ifn c3 hf
      refine lv_aload_n (pc := 53) hx hb dX8_latest_53 rfl (lv_at hl 1 rfl) ?_
      refine x_get (pc := 54) (ci := 8) (T := TX8) (v := .ref a_t_latest) C S 0 rfl rfl inlX8 14 (by decide) rfl qf_8_36 rfl dX8_latest_54 ?_
      refine lv_iload_n (pc := 57) hx hb dX8_latest_57 rfl (lv_at hl 4 rfl) ?_
      refine lv_iconst (pc := 58) hx hb dX8_latest_58 ic_1 ?_
      refine lv_iadd (pc := 59) hx hb dX8_latest_59 ?_
      obtain ⟨hv4, hf⟩ := gI_e hf
      refine x_iald (pc := 60) C S 4 rfl hv4 dX8_latest_60 ?_
      refine lv_aload_n (pc := 61) hx hb dX8_latest_61 rfl (lv_at hl 1 rfl) ?_
      refine lv_iload (pc := 62) hx hb dX8_latest_62 (lv_at hl 0 rfl) ?_
      refine lv_aload_n (pc := 64) hx hb dX8_latest_64 rfl (lv_at hl 1 rfl) ?_
      refine lv_iload_n (pc := 65) hx hb dX8_latest_65 rfl (lv_at hl 2 rfl) ?_
      refine lv_iload_n (pc := 66) hx hb dX8_latest_66 rfl (lv_at hl 4 rfl) ?_
      refine lv_iconst (pc := 67) hx hb dX8_latest_67 ic_1 ?_
      refine lv_iadd (pc := 68) hx hb dX8_latest_68 ?_
      obtain ⟨r5, hq5, hf⟩ := bd_e hf
      refine x_vI (pc := 69) (As := [.int x1, .int (x3 + (1 : Int32))]) (rest := [.int r2, .ref a_t, .int (t_latest (x3 + (1 : Int32)).toNatClampNeg)]) (isC := [0, 1]) (ws' := (w_X8_latest G a_t a_t_s a_t_image a_t_mind a_t_aside a_t_text a_t_read a_t_comes a_t_begins a_t_latest a_t_move a_t_sort a_t_items a_t_cell a_t_carried t_isKept t_work t_kind t_letters t_at t_fault t_back t_waits t_miles t_loads t_bestRound t_bestPlace t_bestAdds t_regret t_z t_s t_comes t_begins t_latest)) C S (c_X8_inRow l G a_t a_t_s a_t_image a_t_mind a_t_aside a_t_text a_t_read a_t_comes a_t_begins a_t_latest a_t_move a_t_sort a_t_items a_t_cell a_t_carried t_isKept t_work t_kind t_letters t_at t_fault t_back t_waits t_miles t_loads t_bestRound t_bestPlace t_bestAdds t_regret t_z t_s x1 (x3 + (1 : Int32)) r5 hq5) (u_X8_latest_X8_inRow_63 hts) (ci := 8) rfl 0 rfl rfl (by decide +kernel) [some 0, some 1, none, none, none] (by decide +kernel) rfl rfl rfl hl.1 rfl (Nat.le_of_ble_eq_true rfl) dX8_latest_69 (fun H locs S => ?_)
      obtain ⟨r6, hq6, hf⟩ := bd_e hf
      refine x_vI (pc := 72) (As := [.int r2, .int r5]) (rest := [.int (t_latest (x3 + (1 : Int32)).toNatClampNeg)]) (isC := [0, 1]) (ws' := (w_X8_latest G a_t a_t_s a_t_image a_t_mind a_t_aside a_t_text a_t_read a_t_comes a_t_begins a_t_latest a_t_move a_t_sort a_t_items a_t_cell a_t_carried t_isKept t_work t_kind t_letters t_at t_fault t_back t_waits t_miles t_loads t_bestRound t_bestPlace t_bestAdds t_regret t_z t_s t_comes t_begins t_latest)) C S (c_X8_between l G a_t a_t_s a_t_image a_t_mind a_t_aside a_t_text a_t_read a_t_comes a_t_begins a_t_latest a_t_move a_t_sort a_t_items a_t_cell a_t_carried t_isKept t_work t_kind t_letters t_at t_fault t_back t_waits t_miles t_loads t_bestRound t_bestPlace t_bestAdds t_regret t_z t_s r2 r5 r6 hq6) (u_X8_latest_X8_between_88 hts) (ci := 8) rfl 0 rfl rfl (by decide +kernel) [some 0, some 1, none, none, none] (by decide +kernel) rfl rfl rfl hl.1 rfl (Nat.le_of_ble_eq_true rfl) dX8_latest_72 (fun H locs S => ?_)
      refine lv_isub (pc := 75) hx hb dX8_latest_75 ?_
      exact k_X8_latest_76 C (t_isKept) (t_work) (t_kind) (t_letters) (t_at) (t_fault) (t_back) (t_waits) (t_miles) (t_loads) (t_bestRound) (t_bestPlace) (t_bestAdds) (t_regret) (t_z) (t_s) (t_comes) (t_begins) (t_latest) (x1) (x2) (x3) (r2) (((t_latest (x3 + (1 : Int32)).toNatClampNeg) - r6)) k18 hk18 hf S (lv_sub hl [1, 2, 3, 4, 0] rfl)
    · have hf := ifp c3 hf
      refine lv_aload_n (pc := 37) hx hb dX8_latest_37 rfl (lv_at hl 1 rfl) ?_
      refine lv_iload_n (pc := 38) hx hb dX8_latest_38 rfl (lv_at hl 2 rfl) ?_
      refine lv_iconst (pc := 39) hx hb dX8_latest_39 ic_2 ?_
      obtain ⟨r7, hq7, hf⟩ := bd_e hf
      refine x_vI (pc := 40) (As := [.int x1, .int (2 : Int32)]) (rest := []) (isC := [0, 1]) (ws' := (w_X8_latest G a_t a_t_s a_t_image a_t_mind a_t_aside a_t_text a_t_read a_t_comes a_t_begins a_t_latest a_t_move a_t_sort a_t_items a_t_cell a_t_carried t_isKept t_work t_kind t_letters t_at t_fault t_back t_waits t_miles t_loads t_bestRound t_bestPlace t_bestAdds t_regret t_z t_s t_comes t_begins t_latest)) C S (c_X8_roundAt l G a_t a_t_s a_t_image a_t_mind a_t_aside a_t_text a_t_read a_t_comes a_t_begins a_t_latest a_t_move a_t_sort a_t_items a_t_cell a_t_carried t_isKept t_work t_kind t_letters t_at t_fault t_back t_waits t_miles t_loads t_bestRound t_bestPlace t_bestAdds t_regret t_z t_s x1 (2 : Int32) r7 hq7) (u_X8_latest_X8_roundAt_59 hts) (ci := 8) rfl 0 rfl rfl (by decide +kernel) [some 0, some 1, none, none, none] (by decide +kernel) rfl rfl rfl hl.1 rfl (Nat.le_of_ble_eq_true rfl) dX8_latest_40 (fun H locs S => ?_)
      refine lv_aload_n (pc := 43) hx hb dX8_latest_43 rfl (lv_at hl 1 rfl) ?_
      refine lv_iload (pc := 44) hx hb dX8_latest_44 (lv_at hl 0 rfl) ?_
      obtain ⟨r8, hq8, hf⟩ := bd_e hf
      refine x_vI (pc := 46) (As := [.int r2]) (rest := [.int r7]) (isC := [0, 1]) (ws' := (w_X8_latest G a_t a_t_s a_t_image a_t_mind a_t_aside a_t_text a_t_read a_t_comes a_t_begins a_t_latest a_t_move a_t_sort a_t_items a_t_cell a_t_carried t_isKept t_work t_kind t_letters t_at t_fault t_back t_waits t_miles t_loads t_bestRound t_bestPlace t_bestAdds t_regret t_z t_s t_comes t_begins t_latest)) C S (c_X8_fromDepot l G a_t a_t_s a_t_image a_t_mind a_t_aside a_t_text a_t_read a_t_comes a_t_begins a_t_latest a_t_move a_t_sort a_t_items a_t_cell a_t_carried t_isKept t_work t_kind t_letters t_at t_fault t_back t_waits t_miles t_loads t_bestRound t_bestPlace t_bestAdds t_regret t_z t_s r2 r8 hq8) (u_X8_latest_X8_fromDepot_85 hts) (ci := 8) rfl 0 rfl rfl (by decide +kernel) [some 0, some 1, none, none, none] (by decide +kernel) rfl rfl rfl hl.1 rfl (Nat.le_of_ble_eq_true rfl) dX8_latest_46 (fun H locs S => ?_)
      refine lv_isub (pc := 49) hx hb dX8_latest_49 ?_
      refine lv_goto (tgt := 76) (pc := 50) hx hb dX8_latest_50 (by decide) ?_
      exact k_X8_latest_76 C (t_isKept) (t_work) (t_kind) (t_letters) (t_at) (t_fault) (t_back) (t_waits) (t_miles) (t_loads) (t_bestRound) (t_bestPlace) (t_bestAdds) (t_regret) (t_z) (t_s) (t_comes) (t_begins) (t_latest) (x1) (x2) (x3) (r2) ((r7 - r8)) k18 hk18 hf S (lv_sub hl [1, 2, 3, 4, 0] rfl)
set_option maxRecDepth 100000 in
set_option maxHeartbeats 4000000 in
theorem h_X8_latest_18 (C : Cx p s m args meth c cX8_latest none 6 RX8 G A) (t_isKept : Int32) (t_work : Int32) (t_kind : Int32) (t_letters : Int32) (t_at : Int32) (t_fault : Int32) (t_back : Int32) (t_waits : Int32) (t_miles : Int32) (t_loads : Int32) (t_bestRound : Int32) (t_bestPlace : Int32) (t_bestAdds : Int32) (t_regret : Int32) (t_z : Int32) (t_s : Nat → Int32) (t_comes : Nat → Int32) (t_begins : Nat → Int32) (x1 : Int32) (x2 : Int32) : ∀ (n : Nat) (x3 : Int32) (t_latest : Nat → Int32) {H : Heap} {locs : List Loc} {ls : Array Slot} (hf : lp (fun k x => b_X8_latest_18 x1 x2 t_s t_comes t_begins t_back t_waits t_loads k x.1 x.2) n (x3, t_latest) = some (z_t_comes, z_t_begins, z_t_latest, z_t_back, z_t_waits, z_t_loads)) (S : St G A s.heap H locs (w_X8_latest G a_t a_t_s a_t_image a_t_mind a_t_aside a_t_text a_t_read a_t_comes a_t_begins a_t_latest a_t_move a_t_sort a_t_items a_t_cell a_t_carried t_isKept t_work t_kind t_letters t_at t_fault t_back t_waits t_miles t_loads t_bestRound t_bestPlace t_bestAdds t_regret t_z t_s t_comes t_begins t_latest)) (hl : lv_has ls 6 [(0, .ref a_t), (1, .int x1), (2, .int x2), (3, .int x3)]), W p l e rm_X8_latest s m args below meth c H locs 0 0 (QV G below args s A (w_X8_latest G a_t a_t_s a_t_image a_t_mind a_t_aside a_t_text a_t_read a_t_comes a_t_begins a_t_latest a_t_move a_t_sort a_t_items a_t_cell a_t_carried t_isKept t_work t_kind t_letters t_at t_fault z_t_back z_t_waits t_miles z_t_loads t_bestRound t_bestPlace t_bestAdds t_regret t_z t_s z_t_comes z_t_begins z_t_latest)) (F0 m 18 ls []) := by
  intro n
  induction n with
  | zero =>
    intro x3 t_latest  H locs ls hf
    cases hf
  | succ n ih =>
    intro x3 t_latest  H locs ls hf S hl
    have hf : b_X8_latest_18 x1 x2 t_s t_comes t_begins t_back t_waits t_loads (lp (fun k x => b_X8_latest_18 x1 x2 t_s t_comes t_begins t_back t_waits t_loads k x.1 x.2) n) x3 t_latest = some (z_t_comes, z_t_begins, z_t_latest, z_t_back, z_t_waits, z_t_loads) := hf
    exact k_X8_latest_18 C t_isKept t_work t_kind t_letters t_at t_fault t_back t_waits t_miles t_loads t_bestRound t_bestPlace t_bestAdds t_regret t_z t_s t_comes t_begins t_latest x1 x2 x3  (lp (fun k x => b_X8_latest_18 x1 x2 t_s t_comes t_begins t_back t_waits t_loads k x.1 x.2) n) (fun x3' t_latest'  h S hl => ih x3' t_latest'  h S hl) hf S hl
set_option maxRecDepth 100000 in
set_option maxHeartbeats 4000000 in
theorem c_X8_latest (l : Launch) (G : GE) (a_t a_t_s a_t_image a_t_mind a_t_aside a_t_text a_t_read a_t_comes a_t_begins a_t_latest a_t_move a_t_sort a_t_items a_t_cell a_t_carried : Nat) (t_isKept : Int32) (t_work : Int32) (t_kind : Int32) (t_letters : Int32) (t_at : Int32) (t_fault : Int32) (t_back : Int32) (t_waits : Int32) (t_miles : Int32) (t_loads : Int32) (t_bestRound : Int32) (t_bestPlace : Int32) (t_bestAdds : Int32) (t_regret : Int32) (t_z : Int32) (t_s : Nat → Int32) (t_comes : Nat → Int32) (t_begins : Nat → Int32) (t_latest : Nat → Int32) (x1 : Int32) (z_t_comes : Nat → Int32) (z_t_begins : Nat → Int32) (z_t_latest : Nat → Int32) (z_t_back : Int32) (z_t_waits : Int32) (z_t_loads : Int32) (hf : f_X8_latest t_s t_comes t_begins t_latest x1 = some (z_t_comes, z_t_begins, z_t_latest, z_t_back, z_t_waits, z_t_loads)) : CV l G yX8_latest kw_X8_latest rm_X8_latest [.ref a_t, .int x1] (w_X8_latest G a_t a_t_s a_t_image a_t_mind a_t_aside a_t_text a_t_read a_t_comes a_t_begins a_t_latest a_t_move a_t_sort a_t_items a_t_cell a_t_carried t_isKept t_work t_kind t_letters t_at t_fault t_back t_waits t_miles t_loads t_bestRound t_bestPlace t_bestAdds t_regret t_z t_s t_comes t_begins t_latest) (w_X8_latest G a_t a_t_s a_t_image a_t_mind a_t_aside a_t_text a_t_read a_t_comes a_t_begins a_t_latest a_t_move a_t_sort a_t_items a_t_cell a_t_carried t_isKept t_work t_kind t_letters t_at t_fault z_t_back z_t_waits t_miles z_t_loads t_bestRound t_bestPlace t_bestAdds t_regret t_z t_s z_t_comes z_t_begins z_t_latest) := by
  refine en_V (cc := cX8_latest) (maxL := 6) (ret := none) (by decide +kernel) (Nat.le_of_ble_eq_true rfl) ?_
  intro p e s m args below meth c A ls C S hl
  have hl : lv_has ls 6 [(0, .ref a_t), (1, .int x1)] := hl
  have C : Cx p s m args meth c cX8_latest none 6 RX8 G A := C
  unfold f_X8_latest at hf
  have hx := C.1
  have hb := C.2.1
  have hown := C.2.2.2.2.1
  have hts := C.2.2.2.2.2.1
  have hN := C.2.2.2.2.2.2.2.2.2.2
  refine lv_aload_n (pc := 0) hx hb dX8_latest_0 rfl (lv_at hl 0 rfl) ?_
  refine lv_iload_n (pc := 1) hx hb dX8_latest_1 rfl (lv_at hl 1 rfl) ?_
  refine lv_iconst (pc := 2) hx hb dX8_latest_2 ic_0 ?_
  obtain ⟨⟨r1, o1_t_comes, o1_t_begins, o1_t_back, o1_t_waits, o1_t_loads⟩, hq1, hf⟩ := bd_e hf
  refine x_vI (pc := 3) (As := [.int x1, .int (0 : Int32)]) (rest := []) (isC := [0, 1, 2, 3]) (ws' := (w_X8_latest G a_t a_t_s a_t_image a_t_mind a_t_aside a_t_text a_t_read a_t_comes a_t_begins a_t_latest a_t_move a_t_sort a_t_items a_t_cell a_t_carried t_isKept t_work t_kind t_letters t_at t_fault o1_t_back o1_t_waits t_miles o1_t_loads t_bestRound t_bestPlace t_bestAdds t_regret t_z t_s o1_t_comes o1_t_begins t_latest)) C S (c_X8_lateBy l G a_t a_t_s a_t_image a_t_mind a_t_aside a_t_text a_t_read a_t_comes a_t_begins a_t_latest a_t_move a_t_sort a_t_items a_t_cell a_t_carried t_isKept t_work t_kind t_letters t_at t_fault t_back t_waits t_miles t_loads t_bestRound t_bestPlace t_bestAdds t_regret t_z t_s t_comes t_begins x1 (0 : Int32) r1 o1_t_comes o1_t_begins o1_t_back o1_t_waits o1_t_loads hq1) (u_X8_latest_X8_lateBy_101 hts) (ci := 8) rfl 0 rfl rfl (by decide +kernel) [some 0, some 1, some 2, some 3, none] (by decide +kernel) rfl rfl rfl hl.1 rfl (Nat.le_of_ble_eq_true rfl) dX8_latest_3 (fun H locs S => ?_)
  refine lv_pop (pc := 6) hx hb dX8_latest_6 rfl ?_
  refine lv_aload_n (pc := 7) hx hb dX8_latest_7 rfl (lv_at hl 0 rfl) ?_
  refine lv_iload_n (pc := 8) hx hb dX8_latest_8 rfl (lv_at hl 1 rfl) ?_
  refine lv_iconst (pc := 9) hx hb dX8_latest_9 ic_3 ?_
  obtain ⟨r2, hq2, hf⟩ := bd_e hf
  refine x_vI (pc := 10) (As := [.int x1, .int (3 : Int32)]) (rest := []) (isC := [0, 1]) (ws' := (w_X8_latest G a_t a_t_s a_t_image a_t_mind a_t_aside a_t_text a_t_read a_t_comes a_t_begins a_t_latest a_t_move a_t_sort a_t_items a_t_cell a_t_carried t_isKept t_work t_kind t_letters t_at t_fault o1_t_back o1_t_waits t_miles o1_t_loads t_bestRound t_bestPlace t_bestAdds t_regret t_z t_s o1_t_comes o1_t_begins t_latest)) C S (c_X8_roundAt l G a_t a_t_s a_t_image a_t_mind a_t_aside a_t_text a_t_read a_t_comes a_t_begins a_t_latest a_t_move a_t_sort a_t_items a_t_cell a_t_carried t_isKept t_work t_kind t_letters t_at t_fault o1_t_back o1_t_waits t_miles o1_t_loads t_bestRound t_bestPlace t_bestAdds t_regret t_z t_s x1 (3 : Int32) r2 hq2) (u_X8_latest_X8_roundAt_59 hts) (ci := 8) rfl 0 rfl rfl (by decide +kernel) [some 0, some 1, none, none, none] (by decide +kernel) rfl rfl rfl hl.1 rfl (Nat.le_of_ble_eq_true rfl) dX8_latest_10 (fun H locs S => ?_)
  refine lv_istore_n (pc := 13) (lv' := [(2, .int r2), (0, .ref a_t), (1, .int x1)]) hx hb dX8_latest_13 rfl hl (by decide) rfl (fun ls hl => ?_)
  refine lv_iload_n (pc := 14) hx hb dX8_latest_14 rfl (lv_at hl 0 rfl) ?_
  refine lv_iconst (pc := 15) hx hb dX8_latest_15 ic_1 ?_
  refine lv_isub (pc := 16) hx hb dX8_latest_16 ?_
  refine lv_istore_n (pc := 17) (lv' := [(3, .int (r2 - (1 : Int32))), (2, .int r2), (0, .ref a_t), (1, .int x1)]) hx hb dX8_latest_17 rfl hl (by decide) rfl (fun ls hl => ?_)
  exact h_X8_latest_18 C (t_isKept) (t_work) (t_kind) (t_letters) (t_at) (t_fault) (o1_t_back) (o1_t_waits) (t_miles) (o1_t_loads) (t_bestRound) (t_bestPlace) (t_bestAdds) (t_regret) (t_z) (t_s) (o1_t_comes) (o1_t_begins) (x1) (r2) fu ((r2 - (1 : Int32))) (t_latest) hf S (lv_sub hl [2, 3, 1, 0] rfl)
end

abbrev rm_X8_lock : Room := { frames := 3, cells := 0, slots := 0, locals := 67 }
abbrev kw_X8_lock : Cond := .code yX8_lock cX8_lock 4 (some .int)
abbrev w_X8_lock (G : GE) (a_t a_t_s a_t_image a_t_mind a_t_aside a_t_text a_t_read a_t_comes a_t_begins a_t_latest a_t_move a_t_sort a_t_items a_t_cell a_t_carried : Nat) (t_isKept : Int32) (t_work : Int32) (t_kind : Int32) (t_letters : Int32) (t_at : Int32) (t_fault : Int32) (t_back : Int32) (t_waits : Int32) (t_miles : Int32) (t_loads : Int32) (t_bestRound : Int32) (t_bestPlace : Int32) (t_bestAdds : Int32) (t_regret : Int32) (t_z : Int32) (t_s : Nat → Int32) : va_W := [(a_t, ob 8 [.ref a_t_s, .ref a_t_image, .ref a_t_mind, .ref a_t_aside, .int t_isKept, .int t_work, .int t_kind, .ref a_t_text, .ref a_t_read, .int t_letters, .int t_at, .int t_fault, .ref a_t_comes, .ref a_t_begins, .ref a_t_latest, .int t_back, .int t_waits, .int t_miles, .int t_loads, .int t_bestRound, .int t_bestPlace, .int t_bestAdds, .int t_regret, .ref a_t_move, .ref a_t_sort, .ref a_t_items, .ref a_t_cell, .ref a_t_carried, .int t_z]), (a_t_s, aI G 258 t_s)]
theorem u_X8_lock_X8_isStop_151 {s : State} {args : Array Value} (hts : ∀ w ∈ WU, w.before args s = true) : CallW rm_X8_lock s args RX8 RX8 151 yX8_isStop cX8_isStop 2 (some .boolean) (kw_X8_isStop :: WU) rm_X8_isStop 0 0 1 := cwV 1 hts (gV qm_8_151 qi_X8_isStop ql_X8_isStop qn_8 qc_X8_isStop) rfl rfl rfl (by decide +kernel) ⟨Nat.le_of_ble_eq_true rfl, Nat.le_of_ble_eq_true rfl⟩
theorem u_X8_lock_X8_roundOf_157 {s : State} {args : Array Value} (hts : ∀ w ∈ WU, w.before args s = true) : CallW rm_X8_lock s args RX8 RX8 157 yX8_roundOf cX8_roundOf 3 (some .int) (kw_X8_roundOf :: WU) rm_X8_roundOf 0 0 1 := cwV 1 hts (gV qm_8_157 qi_X8_roundOf ql_X8_roundOf qn_8 qc_X8_roundOf) rfl rfl rfl (by decide +kernel) ⟨Nat.le_of_ble_eq_true rfl, Nat.le_of_ble_eq_true rfl⟩
theorem u_X8_lock_X8_stopAt_78 {s : State} {args : Array Value} (hts : ∀ w ∈ WU, w.before args s = true) : CallW rm_X8_lock s args RX8 RX8 78 yX8_stopAt cX8_stopAt 3 (some .int) (kw_X8_stopAt :: WU) rm_X8_stopAt 0 0 2 := cwV 2 hts (gV qm_8_78 qi_X8_stopAt ql_X8_stopAt qn_8 qc_X8_stopAt) rfl rfl rfl (by decide +kernel) ⟨Nat.le_of_ble_eq_true rfl, Nat.le_of_ble_eq_true rfl⟩
section
variable {p : Program} {l : Launch} {e : Env} {s : State} {m : MethodId} {args : Array Value} {below : List Frame} {meth : Method} {c : Code} {A : Nat → Prop} {G : GE} {a_t a_t_s a_t_image a_t_mind a_t_aside a_t_text a_t_read a_t_comes a_t_begins a_t_latest a_t_move a_t_sort a_t_items a_t_cell a_t_carried : Nat} {r : Int32} {z_t_s : Nat → Int32}
set_option maxRecDepth 100000 in
set_option maxHeartbeats 4000000 in
theorem k_X8_lock_52 (C : Cx p s m args meth c cX8_lock (some .int) 4 RX8 G A) (t_isKept : Int32) (t_work : Int32) (t_kind : Int32) (t_letters : Int32) (t_at : Int32) (t_fault : Int32) (t_back : Int32) (t_waits : Int32) (t_miles : Int32) (t_loads : Int32) (t_bestRound : Int32) (t_bestPlace : Int32) (t_bestAdds : Int32) (t_regret : Int32) (t_z : Int32) (t_s : Nat → Int32) (x3 : Int32) (y1 : Int32) (y2 : Int32) {H : Heap} {locs : List Loc} {ls : Array Slot} (hf : b_X8_lock_52 x3 y1 y2 t_s = some (r, z_t_s)) (S : St G A s.heap H locs (w_X8_lock G a_t a_t_s a_t_image a_t_mind a_t_aside a_t_text a_t_read a_t_comes a_t_begins a_t_latest a_t_move a_t_sort a_t_items a_t_cell a_t_carried t_isKept t_work t_kind t_letters t_at t_fault t_back t_waits t_miles t_loads t_bestRound t_bestPlace t_bestAdds t_regret t_z t_s)) (hl : lv_has ls 4 [(3, .int x3)]) : W p l e rm_X8_lock s m args below meth c H locs 0 0 (QI G below args s A r (w_X8_lock G a_t a_t_s a_t_image a_t_mind a_t_aside a_t_text a_t_read a_t_comes a_t_begins a_t_latest a_t_move a_t_sort a_t_items a_t_cell a_t_carried t_isKept t_work t_kind t_letters t_at t_fault t_back t_waits t_miles t_loads t_bestRound t_bestPlace t_bestAdds t_regret t_z z_t_s)) (F0 m 52 ls [.int y2, .int y1, .ref a_t_s]) := by
  unfold b_X8_lock_52 at hf
  have hx := C.1
  have hb := C.2.1
  have hown := C.2.2.2.2.1
  have hts := C.2.2.2.2.2.1
  have hN := C.2.2.2.2.2.2.2.2.2.2
  obtain ⟨hv1, hf⟩ := gI_e hf
  refine x_iast (pc := 52) (ws' := (w_X8_lock G a_t a_t_s a_t_image a_t_mind a_t_aside a_t_text a_t_read a_t_comes a_t_begins a_t_latest a_t_move a_t_sort a_t_items a_t_cell a_t_carried t_isKept t_work t_kind t_letters t_at t_fault t_back t_waits t_miles t_loads t_bestRound t_bestPlace t_bestAdds t_regret t_z (upd t_s y1.toNatClampNeg y2))) C S 1 rfl hv1 rfl dX8_lock_52 (fun H locs S => ?_)
  refine lv_iload_n (pc := 53) hx hb dX8_lock_53 rfl (lv_at hl 0 rfl) ?_
  cases hf
  exact x_iret (pc := 54) C S dX8_lock_54
set_option maxRecDepth 100000 in
set_option maxHeartbeats 4000000 in
theorem c_X8_lock (l : Launch) (G : GE) (a_t a_t_s a_t_image a_t_mind a_t_aside a_t_text a_t_read a_t_comes a_t_begins a_t_latest a_t_move a_t_sort a_t_items a_t_cell a_t_carried : Nat) (t_isKept : Int32) (t_work : Int32) (t_kind : Int32) (t_letters : Int32) (t_at : Int32) (t_fault : Int32) (t_back : Int32) (t_waits : Int32) (t_miles : Int32) (t_loads : Int32) (t_bestRound : Int32) (t_bestPlace : Int32) (t_bestAdds : Int32) (t_regret : Int32) (t_z : Int32) (t_s : Nat → Int32) (x1 : Int32) (x2 : Int32) (r : Int32) (z_t_s : Nat → Int32) (hf : f_X8_lock t_s x1 x2 = some (r, z_t_s)) : CI l G yX8_lock kw_X8_lock rm_X8_lock [.ref a_t, .int x1, .int x2] (w_X8_lock G a_t a_t_s a_t_image a_t_mind a_t_aside a_t_text a_t_read a_t_comes a_t_begins a_t_latest a_t_move a_t_sort a_t_items a_t_cell a_t_carried t_isKept t_work t_kind t_letters t_at t_fault t_back t_waits t_miles t_loads t_bestRound t_bestPlace t_bestAdds t_regret t_z t_s) r (w_X8_lock G a_t a_t_s a_t_image a_t_mind a_t_aside a_t_text a_t_read a_t_comes a_t_begins a_t_latest a_t_move a_t_sort a_t_items a_t_cell a_t_carried t_isKept t_work t_kind t_letters t_at t_fault t_back t_waits t_miles t_loads t_bestRound t_bestPlace t_bestAdds t_regret t_z z_t_s) := by
  refine en_I (cc := cX8_lock) (maxL := 4) (ret := (some .int)) (by decide +kernel) (Nat.le_of_ble_eq_true rfl) ?_
  intro p e s m args below meth c A ls C S hl
  have hl : lv_has ls 4 [(0, .ref a_t), (1, .int x1), (2, .int x2)] := hl
  have C : Cx p s m args meth c cX8_lock (some .int) 4 RX8 G A := C
  unfold f_X8_lock at hf
  have hx := C.1
  have hb := C.2.1
  have hown := C.2.2.2.2.1
  have hts := C.2.2.2.2.2.1
  have hN := C.2.2.2.2.2.2.2.2.2.2
  refine lv_aload_n (pc := 0) hx hb dX8_lock_0 rfl (lv_at hl 0 rfl) ?_
  refine lv_iload_n (pc := 1) hx hb dX8_lock_1 rfl (lv_at hl 1 rfl) ?_
  obtain ⟨r1, hq1, hf⟩ := bd_e hf
  refine x_vI (pc := 2) (As := [.int x1]) (rest := []) (isC := [0, 1]) (ws' := (w_X8_lock G a_t a_t_s a_t_image a_t_mind a_t_aside a_t_text a_t_read a_t_comes a_t_begins a_t_latest a_t_move a_t_sort a_t_items a_t_cell a_t_carried t_isKept t_work t_kind t_letters t_at t_fault t_back t_waits t_miles t_loads t_bestRound t_bestPlace t_bestAdds t_regret t_z t_s)) C S (c_X8_isStop l G a_t a_t_s a_t_image a_t_mind a_t_aside a_t_text a_t_read a_t_comes a_t_begins a_t_latest a_t_move a_t_sort a_t_items a_t_cell a_t_carried t_isKept t_work t_kind t_letters t_at t_fault t_back t_waits t_miles t_loads t_bestRound t_bestPlace t_bestAdds t_regret t_z t_s x1 r1 hq1) (u_X8_lock_X8_isStop_151 hts) (ci := 8) rfl 0 rfl rfl (by decide +kernel) [some 0, some 1] (by decide +kernel) rfl rfl rfl hl.1 rfl (Nat.le_of_ble_eq_true rfl) dX8_lock_2 (fun H locs S => ?_)
  refine lv_if_ne (tgt := 10) (pc := 5) hx hb dX8_lock_5 (by decide) (fun c2 => ?_) (fun c2 => ?_)
  · have hf := ifn c2 hf
    refine lv_aload_n (pc := 10) hx hb dX8_lock_10 rfl (lv_at hl 0 rfl) ?_
    refine lv_iload_n (pc := 11) hx hb dX8_lock_11 rfl (lv_at hl 1 rfl) ?_
    obtain ⟨r3, hq3, hf⟩ := bd_e hf
    refine x_vI (pc := 12) (As := [.int x1]) (rest := []) (isC := [0, 1]) (ws' := (w_X8_lock G a_t a_t_s a_t_image a_t_mind a_t_aside a_t_text a_t_read a_t_comes a_t_begins a_t_latest a_t_move a_t_sort a_t_items a_t_cell a_t_carried t_isKept t_work t_kind t_letters t_at t_fault t_back t_waits t_miles t_loads t_bestRound t_bestPlace t_bestAdds t_regret t_z t_s)) C S (c_X8_roundOf l G a_t a_t_s a_t_image a_t_mind a_t_aside a_t_text a_t_read a_t_comes a_t_begins a_t_latest a_t_move a_t_sort a_t_items a_t_cell a_t_carried t_isKept t_work t_kind t_letters t_at t_fault t_back t_waits t_miles t_loads t_bestRound t_bestPlace t_bestAdds t_regret t_z t_s x1 r3 hq3) (u_X8_lock_X8_roundOf_157 hts) (ci := 8) rfl 0 rfl rfl (by decide +kernel) [some 0, some 1] (by decide +kernel) rfl rfl rfl hl.1 rfl (Nat.le_of_ble_eq_true rfl) dX8_lock_12 (fun H locs S => ?_)
    refine lv_if_ge (tgt := 21) (pc := 15) hx hb dX8_lock_15 (by decide) (fun c4 => ?_) (fun c4 => ?_)
    · have hf := ifp c4 hf
      refine lv_aload_n (pc := 21) hx hb dX8_lock_21 rfl (lv_at hl 0 rfl) ?_
      refine lv_iload_n (pc := 22) hx hb dX8_lock_22 rfl (lv_at hl 1 rfl) ?_
      refine lv_bipush (pc := 23) hx hb dX8_lock_23 bc_6 ?_
      obtain ⟨r5, hq5, hf⟩ := bd_e hf
      refine x_vI (pc := 25) (As := [.int x1, .int (6 : Int32)]) (rest := []) (isC := [0, 1]) (ws' := (w_X8_lock G a_t a_t_s a_t_image a_t_mind a_t_aside a_t_text a_t_read a_t_comes a_t_begins a_t_latest a_t_move a_t_sort a_t_items a_t_cell a_t_carried t_isKept t_work t_kind t_letters t_at t_fault t_back t_waits t_miles t_loads t_bestRound t_bestPlace t_bestAdds t_regret t_z t_s)) C S (c_X8_stopAt l G a_t a_t_s a_t_image a_t_mind a_t_aside a_t_text a_t_read a_t_comes a_t_begins a_t_latest a_t_move a_t_sort a_t_items a_t_cell a_t_carried t_isKept t_work t_kind t_letters t_at t_fault t_back t_waits t_miles t_loads t_bestRound t_bestPlace t_bestAdds t_regret t_z t_s x1 (6 : Int32) r5 hq5) (u_X8_lock_X8_stopAt_78 hts) (ci := 8) rfl 0 rfl rfl (by decide +kernel) [some 0, some 1] (by decide +kernel) rfl rfl rfl hl.1 rfl (Nat.le_of_ble_eq_true rfl) dX8_lock_25 (fun H locs S => ?_)
      refine lv_istore_n (pc := 28) (lv' := [(3, .int r5), (0, .ref a_t), (1, .int x1), (2, .int x2)]) hx hb dX8_lock_28 rfl hl (by decide) rfl (fun ls hl => ?_)
      refine lv_aload_n (pc := 29) hx hb dX8_lock_29 rfl (lv_at hl 1 rfl) ?_
      refine x_get (pc := 30) (ci := 8) (T := TX8) (v := .ref a_t_s) C S 0 rfl rfl inlX8 0 (by decide) rfl qf_8_11 rfl dX8_lock_30 ?_
      refine lv_bipush (pc := 33) hx hb dX8_lock_33 bc_50 ?_
      refine lv_bipush (pc := 35) hx hb dX8_lock_35 bc_8 ?_
      refine lv_iload_n (pc := 37) hx hb dX8_lock_37 rfl (lv_at hl 2 rfl) ?_
      refine lv_imul (pc := 38) hx hb dX8_lock_38 ?_
      refine lv_iadd (pc := 39) hx hb dX8_lock_39 ?_
      refine lv_bipush (pc := 40) hx hb dX8_lock_40 bc_6 ?_
      refine lv_iadd (pc := 42) hx hb dX8_lock_42 ?_
      refine lv_iload_n (pc := 43) hx hb dX8_lock_43 rfl (lv_at hl 3 rfl) ?_
      refine lv_if_eq (tgt := 51) (pc := 44) hx hb dX8_lock_44 (by decide) (fun c6 => ?_) (fun c6 => ?_)
      · have hf := ifp c6 hf
        refine lv_iconst (pc := 51) hx hb dX8_lock_51 ic_0 ?_
        exact k_X8_lock_52 C (t_isKept) (t_work) (t_kind) (t_letters) (t_at) (t_fault) (t_back) (t_waits) (t_miles) (t_loads) (t_bestRound) (t_bestPlace) (t_bestAdds) (t_regret) (t_z) (t_s) (r5) ((((50 : Int32) + ((8 : Int32) * x1)) + (6 : Int32))) ((0 : Int32)) hf S (lv_sub hl [0] rfl)
      · have hf := ifn c6 hf
        refine lv_iconst (pc := 47) hx hb dX8_lock_47 ic_1 ?_
        refine lv_goto (tgt := 52) (pc := 48) hx hb dX8_lock_48 (by decide) ?_
        exact k_X8_lock_52 C (t_isKept) (t_work) (t_kind) (t_letters) (t_at) (t_fault) (t_back) (t_waits) (t_miles) (t_loads) (t_bestRound) (t_bestPlace) (t_bestAdds) (t_regret) (t_z) (t_s) (r5) ((((50 : Int32) + ((8 : Int32) * x1)) + (6 : Int32))) ((1 : Int32)) hf S (lv_sub hl [0] rfl)
    · have hf := ifn c4 hf
      refine lv_bipush (pc := 18) hx hb dX8_lock_18 bc_m3 ?_
      cases hf
      exact x_iret (pc := 20) C S dX8_lock_20
  · have hf := ifp c2 hf
    refine lv_iconst (pc := 8) hx hb dX8_lock_8 ic_m1 ?_
    cases hf
    exact x_iret (pc := 9) C S dX8_lock_9
end

abbrev rm_X8_looked : Room := { frames := 1, cells := 0, slots := 0, locals := 22 }
abbrev kw_X8_looked : Cond := .code yX8_looked cX8_looked 2 (some .int)
abbrev w_X8_looked (G : GE) (a_t a_t_s a_t_image a_t_mind a_t_aside a_t_text a_t_read a_t_comes a_t_begins a_t_latest a_t_move a_t_sort a_t_items a_t_cell a_t_carried : Nat) (t_isKept : Int32) (t_work : Int32) (t_kind : Int32) (t_letters : Int32) (t_at : Int32) (t_fault : Int32) (t_back : Int32) (t_waits : Int32) (t_miles : Int32) (t_loads : Int32) (t_bestRound : Int32) (t_bestPlace : Int32) (t_bestAdds : Int32) (t_regret : Int32) (t_z : Int32) (t_s : Nat → Int32) : va_W := [(a_t, ob 8 [.ref a_t_s, .ref a_t_image, .ref a_t_mind, .ref a_t_aside, .int t_isKept, .int t_work, .int t_kind, .ref a_t_text, .ref a_t_read, .int t_letters, .int t_at, .int t_fault, .ref a_t_comes, .ref a_t_begins, .ref a_t_latest, .int t_back, .int t_waits, .int t_miles, .int t_loads, .int t_bestRound, .int t_bestPlace, .int t_bestAdds, .int t_regret, .ref a_t_move, .ref a_t_sort, .ref a_t_items, .ref a_t_cell, .ref a_t_carried, .int t_z]), (a_t_s, aI G 258 t_s)]
theorem u_X8_looked_X8_roundAt_59 {s : State} {args : Array Value} (hts : ∀ w ∈ WU, w.before args s = true) : CallW rm_X8_looked s args RX8 RX8 59 yX8_roundAt cX8_roundAt 3 (some .int) (kw_X8_roundAt :: WU) rm_X8_roundAt 0 0 2 := cwV 2 hts (gV qm_8_59 qi_X8_roundAt ql_X8_roundAt qn_8 qc_X8_roundAt) rfl rfl rfl (by decide +kernel) ⟨Nat.le_of_ble_eq_true rfl, Nat.le_of_ble_eq_true rfl⟩
section
variable {p : Program} {l : Launch} {e : Env} {s : State} {m : MethodId} {args : Array Value} {below : List Frame} {meth : Method} {c : Code} {A : Nat → Prop} {G : GE} {a_t a_t_s a_t_image a_t_mind a_t_aside a_t_text a_t_read a_t_comes a_t_begins a_t_latest a_t_move a_t_sort a_t_items a_t_cell a_t_carried : Nat} {r : Int32}
set_option maxRecDepth 100000 in
set_option maxHeartbeats 4000000 in
theorem k_X8_looked_2 (C : Cx p s m args meth c cX8_looked (some .int) 2 RX8 G A) (t_isKept : Int32) (t_work : Int32) (t_kind : Int32) (t_letters : Int32) (t_at : Int32) (t_fault : Int32) (t_back : Int32) (t_waits : Int32) (t_miles : Int32) (t_loads : Int32) (t_bestRound : Int32) (t_bestPlace : Int32) (t_bestAdds : Int32) (t_regret : Int32) (t_z : Int32) (t_s : Nat → Int32) (x1 : Int32) (k2 : Int32 → Option (Int32)) (hk2 : ∀ {H : Heap} {locs : List Loc} {ls : Array Slot} (x1' : Int32), k2 x1' = some r → St G A s.heap H locs (w_X8_looked G a_t a_t_s a_t_image a_t_mind a_t_aside a_t_text a_t_read a_t_comes a_t_begins a_t_latest a_t_move a_t_sort a_t_items a_t_cell a_t_carried t_isKept t_work t_kind t_letters t_at t_fault t_back t_waits t_miles t_loads t_bestRound t_bestPlace t_bestAdds t_regret t_z t_s) → lv_has ls 2 [(0, .ref a_t), (1, .int x1')] → W p l e rm_X8_looked s m args below meth c H locs 0 0 (QI G below args s A r (w_X8_looked G a_t a_t_s a_t_image a_t_mind a_t_aside a_t_text a_t_read a_t_comes a_t_begins a_t_latest a_t_move a_t_sort a_t_items a_t_cell a_t_carried t_isKept t_work t_kind t_letters t_at t_fault t_back t_waits t_miles t_loads t_bestRound t_bestPlace t_bestAdds t_regret t_z t_s)) (F0 m 2 ls [])) {H : Heap} {locs : List Loc} {ls : Array Slot} (hf : b_X8_looked_2 t_s k2 x1 = some r) (S : St G A s.heap H locs (w_X8_looked G a_t a_t_s a_t_image a_t_mind a_t_aside a_t_text a_t_read a_t_comes a_t_begins a_t_latest a_t_move a_t_sort a_t_items a_t_cell a_t_carried t_isKept t_work t_kind t_letters t_at t_fault t_back t_waits t_miles t_loads t_bestRound t_bestPlace t_bestAdds t_regret t_z t_s)) (hl : lv_has ls 2 [(0, .ref a_t), (1, .int x1)]) : W p l e rm_X8_looked s m args below meth c H locs 0 0 (QI G below args s A r (w_X8_looked G a_t a_t_s a_t_image a_t_mind a_t_aside a_t_text a_t_read a_t_comes a_t_begins a_t_latest a_t_move a_t_sort a_t_items a_t_cell a_t_carried t_isKept t_work t_kind t_letters t_at t_fault t_back t_waits t_miles t_loads t_bestRound t_bestPlace t_bestAdds t_regret t_z t_s)) (F0 m 2 ls []) := by
  unfold b_X8_looked_2 at hf
  have hx := C.1
  have hb := C.2.1
  have hown := C.2.2.2.2.1
  have hts := C.2.2.2.2.2.1
  have hN := C.2.2.2.2.2.2.2.2.2.2
  refine lv_iload_n (pc := 2) hx hb dX8_looked_2 rfl (lv_at hl 1 rfl) ?_
  refine lv_aload_n (pc := 3) hx hb dX8_looked_3 rfl (lv_at hl 0 rfl) ?_
  refine x_get (pc := 4) (ci := 8) (T := TX8) (v := .ref a_t_s) C S 0 rfl rfl inlX8 0 (by decide) rfl qf_8_11 rfl dX8_looked_4 ?_
  refine lv_bipush (pc := 7) hx hb dX8_looked_7 bc_7 ?_
  refine x_iald (pc := 9) C S 1 rfl (vp_in_iff.mpr (by decide)) dX8_looked_9 ?_
  refine lv_icmp_ge (tgt := 53) (pc := 10) hx hb dX8_looked_10 (by decide) (fun c1 => ?_) (fun c1 => ?_)
  · have hf := ifp c1 hf
    refine lv_bipush (pc := 53) hx hb dX8_looked_53 bc_m5 ?_
    cases hf
    exact x_iret (pc := 55) C S dX8_looked_55
  · have hf := ifn c1 hf
    refine lv_aload_n (pc := 13) hx hb dX8_looked_13 rfl (lv_at hl 0 rfl) ?_
    refine lv_aload_n (pc := 14) hx hb dX8_looked_14 rfl (lv_at hl 0 rfl) ?_
    refine x_get (pc := 15) (ci := 8) (T := TX8) (v := .ref a_t_s) C S 0 rfl rfl inlX8 0 (by decide) rfl qf_8_11 rfl dX8_looked_15 ?_
    refine lv_bipush (pc := 18) hx hb dX8_looked_18 bc_34 ?_
    refine lv_iconst (pc := 20) hx hb dX8_looked_20 ic_2 ?_
    refine lv_iload_n (pc := 21) hx hb dX8_looked_21 rfl (lv_at hl 1 rfl) ?_
    refine lv_imul (pc := 22) hx hb dX8_looked_22 ?_
    refine lv_iadd (pc := 23) hx hb dX8_looked_23 ?_
    obtain ⟨hv2, hf⟩ := gI_e hf
    refine x_iald (pc := 24) C S 1 rfl hv2 dX8_looked_24 ?_
    refine lv_iconst (pc := 25) hx hb dX8_looked_25 ic_3 ?_
    obtain ⟨r3, hq3, hf⟩ := bd_e hf
    refine x_vI (pc := 26) (As := [.int (t_s ((34 : Int32) + ((2 : Int32) * x1)).toNatClampNeg), .int (3 : Int32)]) (rest := []) (isC := [0, 1]) (ws' := (w_X8_looked G a_t a_t_s a_t_image a_t_mind a_t_aside a_t_text a_t_read a_t_comes a_t_begins a_t_latest a_t_move a_t_sort a_t_items a_t_cell a_t_carried t_isKept t_work t_kind t_letters t_at t_fault t_back t_waits t_miles t_loads t_bestRound t_bestPlace t_bestAdds t_regret t_z t_s)) C S (c_X8_roundAt l G a_t a_t_s a_t_image a_t_mind a_t_aside a_t_text a_t_read a_t_comes a_t_begins a_t_latest a_t_move a_t_sort a_t_items a_t_cell a_t_carried t_isKept t_work t_kind t_letters t_at t_fault t_back t_waits t_miles t_loads t_bestRound t_bestPlace t_bestAdds t_regret t_z t_s (t_s ((34 : Int32) + ((2 : Int32) * x1)).toNatClampNeg) (3 : Int32) r3 hq3) (u_X8_looked_X8_roundAt_59 hts) (ci := 8) rfl 0 rfl rfl (by decide +kernel) [some 0, some 1] (by decide +kernel) rfl rfl rfl hl.1 rfl (Nat.le_of_ble_eq_true rfl) dX8_looked_26 (fun H locs S => ?_)
    refine lv_aload_n (pc := 29) hx hb dX8_looked_29 rfl (lv_at hl 0 rfl) ?_
    refine x_get (pc := 30) (ci := 8) (T := TX8) (v := .ref a_t_s) C S 0 rfl rfl inlX8 0 (by decide) rfl qf_8_11 rfl dX8_looked_30 ?_
    refine lv_bipush (pc := 33) hx hb dX8_looked_33 bc_34 ?_
    refine lv_iconst (pc := 35) hx hb dX8_looked_35 ic_2 ?_
    refine lv_iload_n (pc := 36) hx hb dX8_looked_36 rfl (lv_at hl 1 rfl) ?_
    refine lv_imul (pc := 37) hx hb dX8_looked_37 ?_
    refine lv_iadd (pc := 38) hx hb dX8_looked_38 ?_
    refine lv_iconst (pc := 39) hx hb dX8_looked_39 ic_1 ?_
    refine lv_iadd (pc := 40) hx hb dX8_looked_40 ?_
    obtain ⟨hv4, hf⟩ := gI_e hf
    refine x_iald (pc := 41) C S 1 rfl hv4 dX8_looked_41 ?_
    refine lv_icmp_eq (tgt := 47) (pc := 42) hx hb dX8_looked_42 (by decide) (fun c5 => ?_) (fun c5 => ?_)
    · have hf := ifp c5 hf
      refine lv_iinc (pc := 47) (v := (x1 + (1 : Int32))) (lv' := [(1, .int (x1 + (1 : Int32))), (0, .ref a_t)]) hx hb dX8_looked_47 hl (k := 1) rfl (congrArg (fun z => x1 + z) ic_1) (by decide) rfl (fun ls hl => ?_)
      refine lv_goto (tgt := 2) (pc := 50) hx hb dX8_looked_50 (by decide) ?_
      exact hk2 ((x1 + (1 : Int32)))  hf S (lv_sub hl [1, 0] rfl)
    · have hf := ifn c5 hf
      refine lv_iload_n (pc := 45) hx hb dX8_looked_45 rfl (lv_at hl 1 rfl) ?_
      cases hf
      exact x_iret (pc := 46) C S dX8_looked_46
set_option maxRecDepth 100000 in
set_option maxHeartbeats 4000000 in
theorem h_X8_looked_2 (C : Cx p s m args meth c cX8_looked (some .int) 2 RX8 G A) (t_isKept : Int32) (t_work : Int32) (t_kind : Int32) (t_letters : Int32) (t_at : Int32) (t_fault : Int32) (t_back : Int32) (t_waits : Int32) (t_miles : Int32) (t_loads : Int32) (t_bestRound : Int32) (t_bestPlace : Int32) (t_bestAdds : Int32) (t_regret : Int32) (t_z : Int32) (t_s : Nat → Int32) : ∀ (n : Nat) (x1 : Int32) {H : Heap} {locs : List Loc} {ls : Array Slot} (hf : lp (fun k x => b_X8_looked_2 t_s k x) n x1 = some r) (S : St G A s.heap H locs (w_X8_looked G a_t a_t_s a_t_image a_t_mind a_t_aside a_t_text a_t_read a_t_comes a_t_begins a_t_latest a_t_move a_t_sort a_t_items a_t_cell a_t_carried t_isKept t_work t_kind t_letters t_at t_fault t_back t_waits t_miles t_loads t_bestRound t_bestPlace t_bestAdds t_regret t_z t_s)) (hl : lv_has ls 2 [(0, .ref a_t), (1, .int x1)]), W p l e rm_X8_looked s m args below meth c H locs 0 0 (QI G below args s A r (w_X8_looked G a_t a_t_s a_t_image a_t_mind a_t_aside a_t_text a_t_read a_t_comes a_t_begins a_t_latest a_t_move a_t_sort a_t_items a_t_cell a_t_carried t_isKept t_work t_kind t_letters t_at t_fault t_back t_waits t_miles t_loads t_bestRound t_bestPlace t_bestAdds t_regret t_z t_s)) (F0 m 2 ls []) := by
  intro n
  induction n with
  | zero =>
    intro x1  H locs ls hf
    cases hf
  | succ n ih =>
    intro x1  H locs ls hf S hl
    have hf : b_X8_looked_2 t_s (lp (fun k x => b_X8_looked_2 t_s k x) n) x1 = some r := hf
    exact k_X8_looked_2 C t_isKept t_work t_kind t_letters t_at t_fault t_back t_waits t_miles t_loads t_bestRound t_bestPlace t_bestAdds t_regret t_z t_s x1  (lp (fun k x => b_X8_looked_2 t_s k x) n) (fun x1'  h S hl => ih x1'  h S hl) hf S hl
set_option maxRecDepth 100000 in
set_option maxHeartbeats 4000000 in
theorem c_X8_looked (l : Launch) (G : GE) (a_t a_t_s a_t_image a_t_mind a_t_aside a_t_text a_t_read a_t_comes a_t_begins a_t_latest a_t_move a_t_sort a_t_items a_t_cell a_t_carried : Nat) (t_isKept : Int32) (t_work : Int32) (t_kind : Int32) (t_letters : Int32) (t_at : Int32) (t_fault : Int32) (t_back : Int32) (t_waits : Int32) (t_miles : Int32) (t_loads : Int32) (t_bestRound : Int32) (t_bestPlace : Int32) (t_bestAdds : Int32) (t_regret : Int32) (t_z : Int32) (t_s : Nat → Int32) (r : Int32) (hf : f_X8_looked t_s = some r) : CI l G yX8_looked kw_X8_looked rm_X8_looked [.ref a_t] (w_X8_looked G a_t a_t_s a_t_image a_t_mind a_t_aside a_t_text a_t_read a_t_comes a_t_begins a_t_latest a_t_move a_t_sort a_t_items a_t_cell a_t_carried t_isKept t_work t_kind t_letters t_at t_fault t_back t_waits t_miles t_loads t_bestRound t_bestPlace t_bestAdds t_regret t_z t_s) r (w_X8_looked G a_t a_t_s a_t_image a_t_mind a_t_aside a_t_text a_t_read a_t_comes a_t_begins a_t_latest a_t_move a_t_sort a_t_items a_t_cell a_t_carried t_isKept t_work t_kind t_letters t_at t_fault t_back t_waits t_miles t_loads t_bestRound t_bestPlace t_bestAdds t_regret t_z t_s) := by
  refine en_I (cc := cX8_looked) (maxL := 2) (ret := (some .int)) (by decide +kernel) (Nat.le_of_ble_eq_true rfl) ?_
  intro p e s m args below meth c A ls C S hl
  have hl : lv_has ls 2 [(0, .ref a_t)] := hl
  have C : Cx p s m args meth c cX8_looked (some .int) 2 RX8 G A := C
  unfold f_X8_looked at hf
  have hx := C.1
  have hb := C.2.1
  have hown := C.2.2.2.2.1
  have hts := C.2.2.2.2.2.1
  have hN := C.2.2.2.2.2.2.2.2.2.2
  refine lv_iconst (pc := 0) hx hb dX8_looked_0 ic_0 ?_
  refine lv_istore_n (pc := 1) (lv' := [(1, .int (0 : Int32)), (0, .ref a_t)]) hx hb dX8_looked_1 rfl hl (by decide) rfl (fun ls hl => ?_)
  exact h_X8_looked_2 C (t_isKept) (t_work) (t_kind) (t_letters) (t_at) (t_fault) (t_back) (t_waits) (t_miles) (t_loads) (t_bestRound) (t_bestPlace) (t_bestAdds) (t_regret) (t_z) (t_s) fu ((0 : Int32)) hf S (lv_sub hl [1, 0] rfl)
end

abbrev rm_X8_mean : Room := { frames := 43, cells := 0, slots := 0, locals := 2667 }
abbrev kw_X8_mean : Cond := .code yX8_mean cX8_mean 3 (some .long)
abbrev w_X8_mean (G : GE) (a_t a_t_s a_t_image a_t_mind a_t_aside a_t_text a_t_read a_t_comes a_t_begins a_t_latest a_t_move a_t_sort a_t_items a_t_cell a_t_carried : Nat) (t_isKept : Int32) (t_work : Int32) (t_kind : Int32) (t_letters : Int32) (t_at : Int32) (t_fault : Int32) (t_back : Int32) (t_waits : Int32) (t_miles : Int32) (t_loads : Int32) (t_bestRound : Int32) (t_bestPlace : Int32) (t_bestAdds : Int32) (t_regret : Int32) (t_z : Int32) (t_s : Nat → Int32) (t_comes : Nat → Int32) (t_begins : Nat → Int32) : va_W := [(a_t, ob 8 [.ref a_t_s, .ref a_t_image, .ref a_t_mind, .ref a_t_aside, .int t_isKept, .int t_work, .int t_kind, .ref a_t_text, .ref a_t_read, .int t_letters, .int t_at, .int t_fault, .ref a_t_comes, .ref a_t_begins, .ref a_t_latest, .int t_back, .int t_waits, .int t_miles, .int t_loads, .int t_bestRound, .int t_bestPlace, .int t_bestAdds, .int t_regret, .ref a_t_move, .ref a_t_sort, .ref a_t_items, .ref a_t_cell, .ref a_t_carried, .int t_z]), (a_t_s, aI G 258 t_s), (a_t_comes, aI G 16 t_comes), (a_t_begins, aI G 16 t_begins)]
theorem u_X8_mean_X8_inNone_242 {s : State} {args : Array Value} (hts : ∀ w ∈ WU, w.before args s = true) : CallW rm_X8_mean s args RX8 RX8 242 yX8_inNone cX8_inNone 3 (some .int) (kw_X8_inNone :: WU) rm_X8_inNone 0 0 0 := cwV 0 hts (gV qm_8_242 qi_X8_inNone ql_X8_inNone qn_8 qc_X8_inNone) rfl rfl rfl (by decide +kernel) ⟨Nat.le_of_ble_eq_true rfl, Nat.le_of_ble_eq_true rfl⟩
theorem u_X8_mean_X8_isIn_55 {s : State} {args : Array Value} (hts : ∀ w ∈ WU, w.before args s = true) : CallB rm_X8_mean s args RX8 55 yX8_isIn cX8_isIn 3 (some .boolean) (kw_X8_isIn :: WU) rm_X8_isIn 0 0 3 ∧ (Cond.static yX8_isIn).before args s = true := va_cwS 3 hts (gS qm_8_55 qs_X8_isIn qn_8 qc_X8_isIn) rfl rfl rfl (by decide +kernel) ⟨Nat.le_of_ble_eq_true rfl, Nat.le_of_ble_eq_true rfl⟩
theorem u_X8_mean_X8_allWaits_245 {s : State} {args : Array Value} (hts : ∀ w ∈ WU, w.before args s = true) : CallW rm_X8_mean s args RX8 RX8 245 yX8_allWaits cX8_allWaits 3 (some .int) (kw_X8_allWaits :: WU) rm_X8_allWaits 0 0 0 := cwV 0 hts (gV qm_8_245 qi_X8_allWaits ql_X8_allWaits qn_8 qc_X8_allWaits) rfl rfl rfl (by decide +kernel) ⟨Nat.le_of_ble_eq_true rfl, Nat.le_of_ble_eq_true rfl⟩
theorem u_X8_mean_X8_part_262 {s : State} {args : Array Value} (hts : ∀ w ∈ WU, w.before args s = true) : CallB rm_X8_mean s args RX8 262 yX8_part cX8_part 3 (some .int) (kw_X8_part :: WU) rm_X8_part 0 0 3 ∧ (Cond.static yX8_part).before args s = true := va_cwS 3 hts (gS qm_8_262 qs_X8_part qn_8 qc_X8_part) rfl rfl rfl (by decide +kernel) ⟨Nat.le_of_ble_eq_true rfl, Nat.le_of_ble_eq_true rfl⟩
section
variable {p : Program} {l : Launch} {e : Env} {s : State} {m : MethodId} {args : Array Value} {below : List Frame} {meth : Method} {c : Code} {A : Nat → Prop} {G : GE} {a_t a_t_s a_t_image a_t_mind a_t_aside a_t_text a_t_read a_t_comes a_t_begins a_t_latest a_t_move a_t_sort a_t_items a_t_cell a_t_carried : Nat} {r : Int64} {z_t_comes : Nat → Int32} {z_t_begins : Nat → Int32} {z_t_back : Int32} {z_t_waits : Int32} {z_t_loads : Int32}
set_option maxRecDepth 100000 in
set_option maxHeartbeats 4000000 in
theorem c_X8_mean (l : Launch) (G : GE) (a_t a_t_s a_t_image a_t_mind a_t_aside a_t_text a_t_read a_t_comes a_t_begins a_t_latest a_t_move a_t_sort a_t_items a_t_cell a_t_carried : Nat) (t_isKept : Int32) (t_work : Int32) (t_kind : Int32) (t_letters : Int32) (t_at : Int32) (t_fault : Int32) (t_back : Int32) (t_waits : Int32) (t_miles : Int32) (t_loads : Int32) (t_bestRound : Int32) (t_bestPlace : Int32) (t_bestAdds : Int32) (t_regret : Int32) (t_z : Int32) (t_s : Nat → Int32) (t_comes : Nat → Int32) (t_begins : Nat → Int32) (x1 : Int32) (r : Int64) (z_t_comes : Nat → Int32) (z_t_begins : Nat → Int32) (z_t_back : Int32) (z_t_waits : Int32) (z_t_loads : Int32) (hf : f_X8_mean t_s t_comes t_begins t_back t_waits t_loads x1 = some (r, z_t_comes, z_t_begins, z_t_back, z_t_waits, z_t_loads)) : CL l G yX8_mean kw_X8_mean rm_X8_mean [.ref a_t, .int x1] (w_X8_mean G a_t a_t_s a_t_image a_t_mind a_t_aside a_t_text a_t_read a_t_comes a_t_begins a_t_latest a_t_move a_t_sort a_t_items a_t_cell a_t_carried t_isKept t_work t_kind t_letters t_at t_fault t_back t_waits t_miles t_loads t_bestRound t_bestPlace t_bestAdds t_regret t_z t_s t_comes t_begins) r (w_X8_mean G a_t a_t_s a_t_image a_t_mind a_t_aside a_t_text a_t_read a_t_comes a_t_begins a_t_latest a_t_move a_t_sort a_t_items a_t_cell a_t_carried t_isKept t_work t_kind t_letters t_at t_fault z_t_back z_t_waits t_miles z_t_loads t_bestRound t_bestPlace t_bestAdds t_regret t_z t_s z_t_comes z_t_begins) := by
  refine en_L (cc := cX8_mean) (maxL := 3) (ret := (some .long)) (by decide +kernel) (Nat.le_of_ble_eq_true rfl) ?_
  intro p e s m args below meth c A ls C S hl
  have hl : lv_has ls 3 [(0, .ref a_t), (1, .int x1)] := hl
  have C : Cx p s m args meth c cX8_mean (some .long) 3 RX8 G A := C
  unfold f_X8_mean at hf
  have hx := C.1
  have hb := C.2.1
  have hown := C.2.2.2.2.1
  have hts := C.2.2.2.2.2.1
  have hN := C.2.2.2.2.2.2.2.2.2.2
  refine lv_aload_n (pc := 0) hx hb dX8_mean_0 rfl (lv_at hl 0 rfl) ?_
  refine x_get (pc := 1) (ci := 8) (T := TX8) (v := .ref a_t_s) C S 0 rfl rfl inlX8 0 (by decide) rfl qf_8_11 rfl dX8_mean_1 ?_
  refine lv_iconst (pc := 4) hx hb dX8_mean_4 ic_4 ?_
  refine x_iald (pc := 5) C S 1 rfl (vp_in_iff.mpr (by decide)) dX8_mean_5 ?_
  refine lv_aload_n (pc := 6) hx hb dX8_mean_6 rfl (lv_at hl 0 rfl) ?_
  obtain ⟨r1, hq1, hf⟩ := bd_e hf
  refine x_vI (pc := 7) (As := []) (rest := [.int (t_s (4 : Int32).toNatClampNeg)]) (isC := [0, 1]) (ws' := (w_X8_mean G a_t a_t_s a_t_image a_t_mind a_t_aside a_t_text a_t_read a_t_comes a_t_begins a_t_latest a_t_move a_t_sort a_t_items a_t_cell a_t_carried t_isKept t_work t_kind t_letters t_at t_fault t_back t_waits t_miles t_loads t_bestRound t_bestPlace t_bestAdds t_regret t_z t_s t_comes t_begins)) C S (c_X8_inNone l G a_t a_t_s a_t_image a_t_mind a_t_aside a_t_text a_t_read a_t_comes a_t_begins a_t_latest a_t_move a_t_sort a_t_items a_t_cell a_t_carried t_isKept t_work t_kind t_letters t_at t_fault t_back t_waits t_miles t_loads t_bestRound t_bestPlace t_bestAdds t_regret t_z t_s r1 hq1) (u_X8_mean_X8_inNone_242 hts) (ci := 8) rfl 0 rfl rfl (by decide +kernel) [some 0, some 1, none, none] (by decide +kernel) rfl rfl rfl hl.1 rfl (Nat.le_of_ble_eq_true rfl) dX8_mean_7 (fun H locs S => ?_)
  refine lv_isub (pc := 10) hx hb dX8_mean_10 ?_
  refine lv_istore_n (pc := 11) (lv' := [(2, .int ((t_s (4 : Int32).toNatClampNeg) - r1)), (0, .ref a_t), (1, .int x1)]) hx hb dX8_mean_11 rfl hl (by decide) rfl (fun ls hl => ?_)
  refine lv_iload_n (pc := 12) hx hb dX8_mean_12 rfl (lv_at hl 2 rfl) ?_
  refine lv_iconst (pc := 13) hx hb dX8_mean_13 ic_0 ?_
  refine lv_iconst (pc := 14) hx hb dX8_mean_14 ic_1 ?_
  obtain ⟨r2, hq2, hf⟩ := bd_e hf
  refine x_sI (pc := 15) (As := [.int x1, .int (0 : Int32), .int (1 : Int32)]) (rest := []) (isC := []) (ws' := (w_X8_mean G a_t a_t_s a_t_image a_t_mind a_t_aside a_t_text a_t_read a_t_comes a_t_begins a_t_latest a_t_move a_t_sort a_t_items a_t_cell a_t_carried t_isKept t_work t_kind t_letters t_at t_fault t_back t_waits t_miles t_loads t_bestRound t_bestPlace t_bestAdds t_regret t_z t_s t_comes t_begins)) C S (c_X8_isIn l G x1 (0 : Int32) (1 : Int32) r2 hq2) (u_X8_mean_X8_isIn_55 hts) rfl (by decide +kernel) [none, none, none, none] (by decide +kernel) rfl rfl rfl hl.1 rfl (Nat.le_of_ble_eq_true rfl) dX8_mean_15 (fun H locs S => ?_)
  refine lv_if_eq (tgt := 25) (pc := 18) hx hb dX8_mean_18 (by decide) (fun c3 => ?_) (fun c3 => ?_)
  · have hf := ifp c3 hf
    refine lv_ldc2 (pc := 25) hx hb hown (hts _ qk_8_260) dX8_mean_25 ?_
    cases hf
    exact x_lret (pc := 28) C S dX8_mean_28
  · have hf := ifn c3 hf
    refine lv_iload_n (pc := 21) hx hb dX8_mean_21 rfl (lv_at hl 0 rfl) ?_
    refine lv_if_ne (tgt := 29) (pc := 22) hx hb dX8_mean_22 (by decide) (fun c4 => ?_) (fun c4 => ?_)
    · have hf := ifn c4 hf
      refine lv_aload_n (pc := 29) hx hb dX8_mean_29 rfl (lv_at hl 1 rfl) ?_
      obtain ⟨⟨r5, o5_t_comes, o5_t_begins, o5_t_back, o5_t_waits, o5_t_loads⟩, hq5, hf⟩ := bd_e hf
      refine x_vI (pc := 30) (As := []) (rest := []) (isC := [0, 1, 2, 3]) (ws' := (w_X8_mean G a_t a_t_s a_t_image a_t_mind a_t_aside a_t_text a_t_read a_t_comes a_t_begins a_t_latest a_t_move a_t_sort a_t_items a_t_cell a_t_carried t_isKept t_work t_kind t_letters t_at t_fault o5_t_back o5_t_waits t_miles o5_t_loads t_bestRound t_bestPlace t_bestAdds t_regret t_z t_s o5_t_comes o5_t_begins)) C S (c_X8_allWaits l G a_t a_t_s a_t_image a_t_mind a_t_aside a_t_text a_t_read a_t_comes a_t_begins a_t_latest a_t_move a_t_sort a_t_items a_t_cell a_t_carried t_isKept t_work t_kind t_letters t_at t_fault t_back t_waits t_miles t_loads t_bestRound t_bestPlace t_bestAdds t_regret t_z t_s t_comes t_begins r5 o5_t_comes o5_t_begins o5_t_back o5_t_waits o5_t_loads hq5) (u_X8_mean_X8_allWaits_245 hts) (ci := 8) rfl 0 rfl rfl (by decide +kernel) [some 0, some 1, some 2, some 3] (by decide +kernel) rfl rfl rfl hl.1 rfl (Nat.le_of_ble_eq_true rfl) dX8_mean_30 (fun H locs S => ?_)
      refine lv_iload_n (pc := 33) hx hb dX8_mean_33 rfl (lv_at hl 0 rfl) ?_
      refine lv_iload_n (pc := 34) hx hb dX8_mean_34 rfl (lv_at hl 2 rfl) ?_
      obtain ⟨r6, hq6, hf⟩ := bd_e hf
      refine x_sI (pc := 35) (As := [.int r5, .int ((t_s (4 : Int32).toNatClampNeg) - r1), .int x1]) (rest := []) (isC := []) (ws' := (w_X8_mean G a_t a_t_s a_t_image a_t_mind a_t_aside a_t_text a_t_read a_t_comes a_t_begins a_t_latest a_t_move a_t_sort a_t_items a_t_cell a_t_carried t_isKept t_work t_kind t_letters t_at t_fault o5_t_back o5_t_waits t_miles o5_t_loads t_bestRound t_bestPlace t_bestAdds t_regret t_z t_s o5_t_comes o5_t_begins)) C S (c_X8_part l G r5 ((t_s (4 : Int32).toNatClampNeg) - r1) x1 r6 hq6) (u_X8_mean_X8_part_262 hts) rfl (by decide +kernel) [none, none, none, none] (by decide +kernel) rfl rfl rfl hl.1 rfl (Nat.le_of_ble_eq_true rfl) dX8_mean_35 (fun H locs S => ?_)
      refine lv_i2l (pc := 38) hx hb dX8_mean_38 rfl ?_
      cases hf
      exact x_lret (pc := 39) C S dX8_mean_39
    · have hf := ifp c4 hf
      refine lv_ldc2 (pc := 25) hx hb hown (hts _ qk_8_260) dX8_mean_25 ?_
      cases hf
      exact x_lret (pc := 28) C S dX8_mean_28
end

abbrev rm_X8_odds : Room := { frames := 43, cells := 0, slots := 0, locals := 2667 }
abbrev kw_X8_odds : Cond := .code yX8_odds cX8_odds 5 (some .long)
abbrev w_X8_odds (G : GE) (a_t a_t_s a_t_image a_t_mind a_t_aside a_t_text a_t_read a_t_comes a_t_begins a_t_latest a_t_move a_t_sort a_t_items a_t_cell a_t_carried : Nat) (t_isKept : Int32) (t_work : Int32) (t_kind : Int32) (t_letters : Int32) (t_at : Int32) (t_fault : Int32) (t_back : Int32) (t_waits : Int32) (t_miles : Int32) (t_loads : Int32) (t_bestRound : Int32) (t_bestPlace : Int32) (t_bestAdds : Int32) (t_regret : Int32) (t_z : Int32) (t_s : Nat → Int32) (t_comes : Nat → Int32) (t_begins : Nat → Int32) : va_W := [(a_t, ob 8 [.ref a_t_s, .ref a_t_image, .ref a_t_mind, .ref a_t_aside, .int t_isKept, .int t_work, .int t_kind, .ref a_t_text, .ref a_t_read, .int t_letters, .int t_at, .int t_fault, .ref a_t_comes, .ref a_t_begins, .ref a_t_latest, .int t_back, .int t_waits, .int t_miles, .int t_loads, .int t_bestRound, .int t_bestPlace, .int t_bestAdds, .int t_regret, .ref a_t_move, .ref a_t_sort, .ref a_t_items, .ref a_t_cell, .ref a_t_carried, .int t_z]), (a_t_s, aI G 258 t_s), (a_t_comes, aI G 16 t_comes), (a_t_begins, aI G 16 t_begins)]
theorem u_X8_odds_X8_inNone_242 {s : State} {args : Array Value} (hts : ∀ w ∈ WU, w.before args s = true) : CallW rm_X8_odds s args RX8 RX8 242 yX8_inNone cX8_inNone 3 (some .int) (kw_X8_inNone :: WU) rm_X8_inNone 0 0 0 := cwV 0 hts (gV qm_8_242 qi_X8_inNone ql_X8_inNone qn_8 qc_X8_inNone) rfl rfl rfl (by decide +kernel) ⟨Nat.le_of_ble_eq_true rfl, Nat.le_of_ble_eq_true rfl⟩
theorem u_X8_odds_X8_isIn_55 {s : State} {args : Array Value} (hts : ∀ w ∈ WU, w.before args s = true) : CallB rm_X8_odds s args RX8 55 yX8_isIn cX8_isIn 3 (some .boolean) (kw_X8_isIn :: WU) rm_X8_isIn 0 0 3 ∧ (Cond.static yX8_isIn).before args s = true := va_cwS 3 hts (gS qm_8_55 qs_X8_isIn qn_8 qc_X8_isIn) rfl rfl rfl (by decide +kernel) ⟨Nat.le_of_ble_eq_true rfl, Nat.le_of_ble_eq_true rfl⟩
theorem u_X8_odds_X8_part_262 {s : State} {args : Array Value} (hts : ∀ w ∈ WU, w.before args s = true) : CallB rm_X8_odds s args RX8 262 yX8_part cX8_part 3 (some .int) (kw_X8_part :: WU) rm_X8_part 0 0 3 ∧ (Cond.static yX8_part).before args s = true := va_cwS 3 hts (gS qm_8_262 qs_X8_part qn_8 qc_X8_part) rfl rfl rfl (by decide +kernel) ⟨Nat.le_of_ble_eq_true rfl, Nat.le_of_ble_eq_true rfl⟩
theorem u_X8_odds_X8_roundOf_157 {s : State} {args : Array Value} (hts : ∀ w ∈ WU, w.before args s = true) : CallW rm_X8_odds s args RX8 RX8 157 yX8_roundOf cX8_roundOf 3 (some .int) (kw_X8_roundOf :: WU) rm_X8_roundOf 0 0 1 := cwV 1 hts (gV qm_8_157 qi_X8_roundOf ql_X8_roundOf qn_8 qc_X8_roundOf) rfl rfl rfl (by decide +kernel) ⟨Nat.le_of_ble_eq_true rfl, Nat.le_of_ble_eq_true rfl⟩
theorem u_X8_odds_X8_cheapestOfAll_202 {s : State} {args : Array Value} (hts : ∀ w ∈ WU, w.before args s = true) : CallW rm_X8_odds s args RX8 RX8 202 yX8_cheapestOfAll cX8_cheapestOfAll 6 (some .boolean) (kw_X8_cheapestOfAll :: WU) rm_X8_cheapestOfAll 0 0 1 := cwV 1 hts (gV qm_8_202 qi_X8_cheapestOfAll ql_X8_cheapestOfAll qn_8 qc_X8_cheapestOfAll) rfl rfl rfl (by decide +kernel) ⟨Nat.le_of_ble_eq_true rfl, Nat.le_of_ble_eq_true rfl⟩
section
variable {p : Program} {l : Launch} {e : Env} {s : State} {m : MethodId} {args : Array Value} {below : List Frame} {meth : Method} {c : Code} {A : Nat → Prop} {G : GE} {a_t a_t_s a_t_image a_t_mind a_t_aside a_t_text a_t_read a_t_comes a_t_begins a_t_latest a_t_move a_t_sort a_t_items a_t_cell a_t_carried : Nat} {r : Int64} {z_t_s : Nat → Int32} {z_t_comes : Nat → Int32} {z_t_begins : Nat → Int32} {z_t_back : Int32} {z_t_waits : Int32} {z_t_loads : Int32} {z_t_bestRound : Int32} {z_t_bestPlace : Int32} {z_t_bestAdds : Int32} {z_t_regret : Int32}
set_option maxRecDepth 100000 in
set_option maxHeartbeats 4000000 in
theorem k_X8_odds_27 (C : Cx p s m args meth c cX8_odds (some .long) 5 RX8 G A) (t_isKept : Int32) (t_work : Int32) (t_kind : Int32) (t_letters : Int32) (t_at : Int32) (t_fault : Int32) (t_back : Int32) (t_waits : Int32) (t_miles : Int32) (t_loads : Int32) (t_bestRound : Int32) (t_bestPlace : Int32) (t_bestAdds : Int32) (t_regret : Int32) (t_z : Int32) (t_s : Nat → Int32) (t_comes : Nat → Int32) (t_begins : Nat → Int32) (x1 : Int32) (x2 : Int32) (x3 : Int32) (x4 : Int32) (k27 : Int32 × Int32 × (Nat → Int32) × (Nat → Int32) × (Nat → Int32) × Int32 × Int32 × Int32 × Int32 × Int32 × Int32 × Int32 → Option (Int64 × (Nat → Int32) × (Nat → Int32) × (Nat → Int32) × Int32 × Int32 × Int32 × Int32 × Int32 × Int32 × Int32)) (hk27 : ∀ {H : Heap} {locs : List Loc} {ls : Array Slot} (x3' : Int32) (x4' : Int32) (t_s' : Nat → Int32) (t_comes' : Nat → Int32) (t_begins' : Nat → Int32) (t_back' : Int32) (t_waits' : Int32) (t_loads' : Int32) (t_bestRound' : Int32) (t_bestPlace' : Int32) (t_bestAdds' : Int32) (t_regret' : Int32), k27 (x3', x4', t_s', t_comes', t_begins', t_back', t_waits', t_loads', t_bestRound', t_bestPlace', t_bestAdds', t_regret') = some (r, z_t_s, z_t_comes, z_t_begins, z_t_back, z_t_waits, z_t_loads, z_t_bestRound, z_t_bestPlace, z_t_bestAdds, z_t_regret) → St G A s.heap H locs (w_X8_odds G a_t a_t_s a_t_image a_t_mind a_t_aside a_t_text a_t_read a_t_comes a_t_begins a_t_latest a_t_move a_t_sort a_t_items a_t_cell a_t_carried t_isKept t_work t_kind t_letters t_at t_fault t_back' t_waits' t_miles t_loads' t_bestRound' t_bestPlace' t_bestAdds' t_regret' t_z t_s' t_comes' t_begins') → lv_has ls 5 [(0, .ref a_t), (1, .int x1), (2, .int x2), (3, .int x3'), (4, .int x4')] → W p l e rm_X8_odds s m args below meth c H locs 0 0 (QL G below args s A r (w_X8_odds G a_t a_t_s a_t_image a_t_mind a_t_aside a_t_text a_t_read a_t_comes a_t_begins a_t_latest a_t_move a_t_sort a_t_items a_t_cell a_t_carried t_isKept t_work t_kind t_letters t_at t_fault z_t_back z_t_waits t_miles z_t_loads z_t_bestRound z_t_bestPlace z_t_bestAdds z_t_regret t_z z_t_s z_t_comes z_t_begins)) (F0 m 27 ls [])) {H : Heap} {locs : List Loc} {ls : Array Slot} (hf : b_X8_odds_27 x1 x2 k27 x3 x4 t_s t_comes t_begins t_back t_waits t_loads t_bestRound t_bestPlace t_bestAdds t_regret = some (r, z_t_s, z_t_comes, z_t_begins, z_t_back, z_t_waits, z_t_loads, z_t_bestRound, z_t_bestPlace, z_t_bestAdds, z_t_regret)) (S : St G A s.heap H locs (w_X8_odds G a_t a_t_s a_t_image a_t_mind a_t_aside a_t_text a_t_read a_t_comes a_t_begins a_t_latest a_t_move a_t_sort a_t_items a_t_cell a_t_carried t_isKept t_work t_kind t_letters t_at t_fault t_back t_waits t_miles t_loads t_bestRound t_bestPlace t_bestAdds t_regret t_z t_s t_comes t_begins)) (hl : lv_has ls 5 [(0, .ref a_t), (1, .int x1), (2, .int x2), (3, .int x3), (4, .int x4)]) : W p l e rm_X8_odds s m args below meth c H locs 0 0 (QL G below args s A r (w_X8_odds G a_t a_t_s a_t_image a_t_mind a_t_aside a_t_text a_t_read a_t_comes a_t_begins a_t_latest a_t_move a_t_sort a_t_items a_t_cell a_t_carried t_isKept t_work t_kind t_letters t_at t_fault z_t_back z_t_waits t_miles z_t_loads z_t_bestRound z_t_bestPlace z_t_bestAdds z_t_regret t_z z_t_s z_t_comes z_t_begins)) (F0 m 27 ls []) := by
  unfold b_X8_odds_27 at hf
  have hx := C.1
  have hb := C.2.1
  have hown := C.2.2.2.2.1
  have hts := C.2.2.2.2.2.1
  have hN := C.2.2.2.2.2.2.2.2.2.2
  refine lv_iload (pc := 27) hx hb dX8_odds_27 (lv_at hl 4 rfl) ?_
  refine lv_aload_n (pc := 29) hx hb dX8_odds_29 rfl (lv_at hl 0 rfl) ?_
  refine x_get (pc := 30) (ci := 8) (T := TX8) (v := .ref a_t_s) C S 0 rfl rfl inlX8 0 (by decide) rfl qf_8_11 rfl dX8_odds_30 ?_
  refine lv_iconst (pc := 33) hx hb dX8_odds_33 ic_4 ?_
  refine x_iald (pc := 34) C S 1 rfl (vp_in_iff.mpr (by decide)) dX8_odds_34 ?_
  refine lv_icmp_ge (tgt := 70) (pc := 35) hx hb dX8_odds_35 (by decide) (fun c1 => ?_) (fun c1 => ?_)
  · have hf := ifp c1 hf
    refine lv_iload_n (pc := 70) hx hb dX8_odds_70 rfl (lv_at hl 3 rfl) ?_
    refine lv_iload_n (pc := 71) hx hb dX8_odds_71 rfl (lv_at hl 2 rfl) ?_
    refine lv_iload_n (pc := 72) hx hb dX8_odds_72 rfl (lv_at hl 1 rfl) ?_
    obtain ⟨r2, hq2, hf⟩ := bd_e hf
    refine x_sI (pc := 73) (As := [.int x3, .int x2, .int x1]) (rest := []) (isC := []) (ws' := (w_X8_odds G a_t a_t_s a_t_image a_t_mind a_t_aside a_t_text a_t_read a_t_comes a_t_begins a_t_latest a_t_move a_t_sort a_t_items a_t_cell a_t_carried t_isKept t_work t_kind t_letters t_at t_fault t_back t_waits t_miles t_loads t_bestRound t_bestPlace t_bestAdds t_regret t_z t_s t_comes t_begins)) C S (c_X8_part l G x3 x2 x1 r2 hq2) (u_X8_odds_X8_part_262 hts) rfl (by decide +kernel) [none, none, none, none] (by decide +kernel) rfl rfl rfl hl.1 rfl (Nat.le_of_ble_eq_true rfl) dX8_odds_73 (fun H locs S => ?_)
    refine lv_i2l (pc := 76) hx hb dX8_odds_76 rfl ?_
    cases hf
    exact x_lret (pc := 77) C S dX8_odds_77
  · have hf := ifn c1 hf
    refine lv_iload_n (pc := 38) hx hb dX8_odds_38 rfl (lv_at hl 3 rfl) ?_
    refine lv_aload_n (pc := 39) hx hb dX8_odds_39 rfl (lv_at hl 0 rfl) ?_
    refine lv_iload (pc := 40) hx hb dX8_odds_40 (lv_at hl 4 rfl) ?_
    obtain ⟨r3, hq3, hf⟩ := bd_e hf
    refine x_vI (pc := 42) (As := [.int x4]) (rest := [.int x3]) (isC := [0, 1]) (ws' := (w_X8_odds G a_t a_t_s a_t_image a_t_mind a_t_aside a_t_text a_t_read a_t_comes a_t_begins a_t_latest a_t_move a_t_sort a_t_items a_t_cell a_t_carried t_isKept t_work t_kind t_letters t_at t_fault t_back t_waits t_miles t_loads t_bestRound t_bestPlace t_bestAdds t_regret t_z t_s t_comes t_begins)) C S (c_X8_roundOf l G a_t a_t_s a_t_image a_t_mind a_t_aside a_t_text a_t_read a_t_comes a_t_begins a_t_latest a_t_move a_t_sort a_t_items a_t_cell a_t_carried t_isKept t_work t_kind t_letters t_at t_fault t_back t_waits t_miles t_loads t_bestRound t_bestPlace t_bestAdds t_regret t_z t_s x4 r3 hq3) (u_X8_odds_X8_roundOf_157 hts) (ci := 8) rfl 0 rfl rfl (by decide +kernel) [some 0, some 1, none, none] (by decide +kernel) rfl rfl rfl hl.1 rfl (Nat.le_of_ble_eq_true rfl) dX8_odds_42 (fun H locs S => ?_)
    refine lv_if_ge (tgt := 61) (pc := 45) hx hb dX8_odds_45 (by decide) (fun c4 => ?_) (fun c4 => ?_)
    · have hf := ifp c4 hf
      refine lv_iconst (pc := 61) hx hb dX8_odds_61 ic_0 ?_
      refine lv_iadd (pc := 62) hx hb dX8_odds_62 ?_
      refine lv_istore_n (pc := 63) (lv' := [(3, .int (x3 + (0 : Int32))), (0, .ref a_t), (1, .int x1), (2, .int x2), (4, .int x4)]) hx hb dX8_odds_63 rfl hl (by decide) rfl (fun ls hl => ?_)
      refine lv_iinc (pc := 64) (v := (x4 + (1 : Int32))) (lv' := [(4, .int (x4 + (1 : Int32))), (3, .int (x3 + (0 : Int32))), (0, .ref a_t), (1, .int x1), (2, .int x2)]) hx hb dX8_odds_64 hl (k := 4) rfl (congrArg (fun z => x4 + z) ic_1) (by decide) rfl (fun ls hl => ?_)
      refine lv_goto (tgt := 27) (pc := 67) hx hb dX8_odds_67 (by decide) ?_
      exact hk27 ((x3 + (0 : Int32))) ((x4 + (1 : Int32))) (t_s) (t_comes) (t_begins) (t_back) (t_waits) (t_loads) (t_bestRound) (t_bestPlace) (t_bestAdds) (t_regret)  hf S (lv_sub hl [2, 3, 4, 1, 0] rfl)
    · have hf := ifn c4 hf
      refine lv_aload_n (pc := 48) hx hb dX8_odds_48 rfl (lv_at hl 0 rfl) ?_
      refine lv_iload (pc := 49) hx hb dX8_odds_49 (lv_at hl 4 rfl) ?_
      obtain ⟨⟨r5, o5_t_s, o5_t_comes, o5_t_begins, o5_t_back, o5_t_waits, o5_t_loads, o5_t_bestRound, o5_t_bestPlace, o5_t_bestAdds, o5_t_regret⟩, hq5, hf⟩ := bd_e hf
      refine x_vI (pc := 51) (As := [.int x4]) (rest := [.int x3]) (isC := [0, 1, 2, 3]) (ws' := (w_X8_odds G a_t a_t_s a_t_image a_t_mind a_t_aside a_t_text a_t_read a_t_comes a_t_begins a_t_latest a_t_move a_t_sort a_t_items a_t_cell a_t_carried t_isKept t_work t_kind t_letters t_at t_fault o5_t_back o5_t_waits t_miles o5_t_loads o5_t_bestRound o5_t_bestPlace o5_t_bestAdds o5_t_regret t_z o5_t_s o5_t_comes o5_t_begins)) C S (c_X8_cheapestOfAll l G a_t a_t_s a_t_image a_t_mind a_t_aside a_t_text a_t_read a_t_comes a_t_begins a_t_latest a_t_move a_t_sort a_t_items a_t_cell a_t_carried t_isKept t_work t_kind t_letters t_at t_fault t_back t_waits t_miles t_loads t_bestRound t_bestPlace t_bestAdds t_regret t_z t_s t_comes t_begins x4 r5 o5_t_s o5_t_comes o5_t_begins o5_t_back o5_t_waits o5_t_loads o5_t_bestRound o5_t_bestPlace o5_t_bestAdds o5_t_regret hq5) (u_X8_odds_X8_cheapestOfAll_202 hts) (ci := 8) rfl 0 rfl rfl (by decide +kernel) [some 0, some 1, some 2, some 3] (by decide +kernel) rfl rfl rfl hl.1 rfl (Nat.le_of_ble_eq_true rfl) dX8_odds_51 (fun H locs S => ?_)
      refine lv_if_eq (tgt := 61) (pc := 54) hx hb dX8_odds_54 (by decide) (fun c6 => ?_) (fun c6 => ?_)
      · have hf := ifp c6 hf
        refine lv_iconst (pc := 61) hx hb dX8_odds_61 ic_0 ?_
        refine lv_iadd (pc := 62) hx hb dX8_odds_62 ?_
        refine lv_istore_n (pc := 63) (lv' := [(3, .int (x3 + (0 : Int32))), (0, .ref a_t), (1, .int x1), (2, .int x2), (4, .int x4)]) hx hb dX8_odds_63 rfl hl (by decide) rfl (fun ls hl => ?_)
        refine lv_iinc (pc := 64) (v := (x4 + (1 : Int32))) (lv' := [(4, .int (x4 + (1 : Int32))), (3, .int (x3 + (0 : Int32))), (0, .ref a_t), (1, .int x1), (2, .int x2)]) hx hb dX8_odds_64 hl (k := 4) rfl (congrArg (fun z => x4 + z) ic_1) (by decide) rfl (fun ls hl => ?_)
        refine lv_goto (tgt := 27) (pc := 67) hx hb dX8_odds_67 (by decide) ?_
        exact hk27 ((x3 + (0 : Int32))) ((x4 + (1 : Int32))) (o5_t_s) (o5_t_comes) (o5_t_begins) (o5_t_back) (o5_t_waits) (o5_t_loads) (o5_t_bestRound) (o5_t_bestPlace) (o5_t_bestAdds) (o5_t_regret)  hf S (lv_sub hl [2, 3, 4, 1, 0] rfl)
      · have hf := ifn c6 hf
        refine lv_iconst (pc := 57) hx hb dX8_odds_57 ic_1 ?_
        refine lv_goto (tgt := 62) (pc := 58) hx hb dX8_odds_58 (by decide) ?_
        refine lv_iadd (pc := 62) hx hb dX8_odds_62 ?_
        refine lv_istore_n (pc := 63) (lv' := [(3, .int (x3 + (1 : Int32))), (0, .ref a_t), (1, .int x1), (2, .int x2), (4, .int x4)]) hx hb dX8_odds_63 rfl hl (by decide) rfl (fun ls hl => ?_)
        refine lv_iinc (pc := 64) (v := (x4 + (1 : Int32))) (lv' := [(4, .int (x4 + (1 : Int32))), (3, .int (x3 + (1 : Int32))), (0, .ref a_t), (1, .int x1), (2, .int x2)]) hx hb dX8_odds_64 hl (k := 4) rfl (congrArg (fun z => x4 + z) ic_1) (by decide) rfl (fun ls hl => ?_)
        refine lv_goto (tgt := 27) (pc := 67) hx hb dX8_odds_67 (by decide) ?_
        exact hk27 ((x3 + (1 : Int32))) ((x4 + (1 : Int32))) (o5_t_s) (o5_t_comes) (o5_t_begins) (o5_t_back) (o5_t_waits) (o5_t_loads) (o5_t_bestRound) (o5_t_bestPlace) (o5_t_bestAdds) (o5_t_regret)  hf S (lv_sub hl [2, 3, 4, 1, 0] rfl)
set_option maxRecDepth 100000 in
set_option maxHeartbeats 4000000 in
theorem h_X8_odds_27 (C : Cx p s m args meth c cX8_odds (some .long) 5 RX8 G A) (t_isKept : Int32) (t_work : Int32) (t_kind : Int32) (t_letters : Int32) (t_at : Int32) (t_fault : Int32) (t_miles : Int32) (t_z : Int32) (x1 : Int32) (x2 : Int32) : ∀ (n : Nat) (x3 : Int32) (x4 : Int32) (t_s : Nat → Int32) (t_comes : Nat → Int32) (t_begins : Nat → Int32) (t_back : Int32) (t_waits : Int32) (t_loads : Int32) (t_bestRound : Int32) (t_bestPlace : Int32) (t_bestAdds : Int32) (t_regret : Int32) {H : Heap} {locs : List Loc} {ls : Array Slot} (hf : lp (fun k x => b_X8_odds_27 x1 x2 k x.1 x.2.1 x.2.2.1 x.2.2.2.1 x.2.2.2.2.1 x.2.2.2.2.2.1 x.2.2.2.2.2.2.1 x.2.2.2.2.2.2.2.1 x.2.2.2.2.2.2.2.2.1 x.2.2.2.2.2.2.2.2.2.1 x.2.2.2.2.2.2.2.2.2.2.1 x.2.2.2.2.2.2.2.2.2.2.2) n (x3, x4, t_s, t_comes, t_begins, t_back, t_waits, t_loads, t_bestRound, t_bestPlace, t_bestAdds, t_regret) = some (r, z_t_s, z_t_comes, z_t_begins, z_t_back, z_t_waits, z_t_loads, z_t_bestRound, z_t_bestPlace, z_t_bestAdds, z_t_regret)) (S : St G A s.heap H locs (w_X8_odds G a_t a_t_s a_t_image a_t_mind a_t_aside a_t_text a_t_read a_t_comes a_t_begins a_t_latest a_t_move a_t_sort a_t_items a_t_cell a_t_carried t_isKept t_work t_kind t_letters t_at t_fault t_back t_waits t_miles t_loads t_bestRound t_bestPlace t_bestAdds t_regret t_z t_s t_comes t_begins)) (hl : lv_has ls 5 [(0, .ref a_t), (1, .int x1), (2, .int x2), (3, .int x3), (4, .int x4)]), W p l e rm_X8_odds s m args below meth c H locs 0 0 (QL G below args s A r (w_X8_odds G a_t a_t_s a_t_image a_t_mind a_t_aside a_t_text a_t_read a_t_comes a_t_begins a_t_latest a_t_move a_t_sort a_t_items a_t_cell a_t_carried t_isKept t_work t_kind t_letters t_at t_fault z_t_back z_t_waits t_miles z_t_loads z_t_bestRound z_t_bestPlace z_t_bestAdds z_t_regret t_z z_t_s z_t_comes z_t_begins)) (F0 m 27 ls []) := by
  intro n
  induction n with
  | zero =>
    intro x3 x4 t_s t_comes t_begins t_back t_waits t_loads t_bestRound t_bestPlace t_bestAdds t_regret  H locs ls hf
    cases hf
  | succ n ih =>
    intro x3 x4 t_s t_comes t_begins t_back t_waits t_loads t_bestRound t_bestPlace t_bestAdds t_regret  H locs ls hf S hl
    have hf : b_X8_odds_27 x1 x2 (lp (fun k x => b_X8_odds_27 x1 x2 k x.1 x.2.1 x.2.2.1 x.2.2.2.1 x.2.2.2.2.1 x.2.2.2.2.2.1 x.2.2.2.2.2.2.1 x.2.2.2.2.2.2.2.1 x.2.2.2.2.2.2.2.2.1 x.2.2.2.2.2.2.2.2.2.1 x.2.2.2.2.2.2.2.2.2.2.1 x.2.2.2.2.2.2.2.2.2.2.2) n) x3 x4 t_s t_comes t_begins t_back t_waits t_loads t_bestRound t_bestPlace t_bestAdds t_regret = some (r, z_t_s, z_t_comes, z_t_begins, z_t_back, z_t_waits, z_t_loads, z_t_bestRound, z_t_bestPlace, z_t_bestAdds, z_t_regret) := hf
    exact k_X8_odds_27 C t_isKept t_work t_kind t_letters t_at t_fault t_back t_waits t_miles t_loads t_bestRound t_bestPlace t_bestAdds t_regret t_z t_s t_comes t_begins x1 x2 x3 x4  (lp (fun k x => b_X8_odds_27 x1 x2 k x.1 x.2.1 x.2.2.1 x.2.2.2.1 x.2.2.2.2.1 x.2.2.2.2.2.1 x.2.2.2.2.2.2.1 x.2.2.2.2.2.2.2.1 x.2.2.2.2.2.2.2.2.1 x.2.2.2.2.2.2.2.2.2.1 x.2.2.2.2.2.2.2.2.2.2.1 x.2.2.2.2.2.2.2.2.2.2.2) n) (fun x3' x4' t_s' t_comes' t_begins' t_back' t_waits' t_loads' t_bestRound' t_bestPlace' t_bestAdds' t_regret'  h S hl => ih x3' x4' t_s' t_comes' t_begins' t_back' t_waits' t_loads' t_bestRound' t_bestPlace' t_bestAdds' t_regret'  h S hl) hf S hl
set_option maxRecDepth 100000 in
set_option maxHeartbeats 4000000 in
theorem c_X8_odds (l : Launch) (G : GE) (a_t a_t_s a_t_image a_t_mind a_t_aside a_t_text a_t_read a_t_comes a_t_begins a_t_latest a_t_move a_t_sort a_t_items a_t_cell a_t_carried : Nat) (t_isKept : Int32) (t_work : Int32) (t_kind : Int32) (t_letters : Int32) (t_at : Int32) (t_fault : Int32) (t_back : Int32) (t_waits : Int32) (t_miles : Int32) (t_loads : Int32) (t_bestRound : Int32) (t_bestPlace : Int32) (t_bestAdds : Int32) (t_regret : Int32) (t_z : Int32) (t_s : Nat → Int32) (t_comes : Nat → Int32) (t_begins : Nat → Int32) (x1 : Int32) (r : Int64) (z_t_s : Nat → Int32) (z_t_comes : Nat → Int32) (z_t_begins : Nat → Int32) (z_t_back : Int32) (z_t_waits : Int32) (z_t_loads : Int32) (z_t_bestRound : Int32) (z_t_bestPlace : Int32) (z_t_bestAdds : Int32) (z_t_regret : Int32) (hf : f_X8_odds t_s t_comes t_begins t_back t_waits t_loads t_bestRound t_bestPlace t_bestAdds t_regret x1 = some (r, z_t_s, z_t_comes, z_t_begins, z_t_back, z_t_waits, z_t_loads, z_t_bestRound, z_t_bestPlace, z_t_bestAdds, z_t_regret)) : CL l G yX8_odds kw_X8_odds rm_X8_odds [.ref a_t, .int x1] (w_X8_odds G a_t a_t_s a_t_image a_t_mind a_t_aside a_t_text a_t_read a_t_comes a_t_begins a_t_latest a_t_move a_t_sort a_t_items a_t_cell a_t_carried t_isKept t_work t_kind t_letters t_at t_fault t_back t_waits t_miles t_loads t_bestRound t_bestPlace t_bestAdds t_regret t_z t_s t_comes t_begins) r (w_X8_odds G a_t a_t_s a_t_image a_t_mind a_t_aside a_t_text a_t_read a_t_comes a_t_begins a_t_latest a_t_move a_t_sort a_t_items a_t_cell a_t_carried t_isKept t_work t_kind t_letters t_at t_fault z_t_back z_t_waits t_miles z_t_loads z_t_bestRound z_t_bestPlace z_t_bestAdds z_t_regret t_z z_t_s z_t_comes z_t_begins) := by
  refine en_L (cc := cX8_odds) (maxL := 5) (ret := (some .long)) (by decide +kernel) (Nat.le_of_ble_eq_true rfl) ?_
  intro p e s m args below meth c A ls C S hl
  have hl : lv_has ls 5 [(0, .ref a_t), (1, .int x1)] := hl
  have C : Cx p s m args meth c cX8_odds (some .long) 5 RX8 G A := C
  unfold f_X8_odds at hf
  have hx := C.1
  have hb := C.2.1
  have hown := C.2.2.2.2.1
  have hts := C.2.2.2.2.2.1
  have hN := C.2.2.2.2.2.2.2.2.2.2
  refine lv_aload_n (pc := 0) hx hb dX8_odds_0 rfl (lv_at hl 0 rfl) ?_
  obtain ⟨r1, hq1, hf⟩ := bd_e hf
  refine x_vI (pc := 1) (As := []) (rest := []) (isC := [0, 1]) (ws' := (w_X8_odds G a_t a_t_s a_t_image a_t_mind a_t_aside a_t_text a_t_read a_t_comes a_t_begins a_t_latest a_t_move a_t_sort a_t_items a_t_cell a_t_carried t_isKept t_work t_kind t_letters t_at t_fault t_back t_waits t_miles t_loads t_bestRound t_bestPlace t_bestAdds t_regret t_z t_s t_comes t_begins)) C S (c_X8_inNone l G a_t a_t_s a_t_image a_t_mind a_t_aside a_t_text a_t_read a_t_comes a_t_begins a_t_latest a_t_move a_t_sort a_t_items a_t_cell a_t_carried t_isKept t_work t_kind t_letters t_at t_fault t_back t_waits t_miles t_loads t_bestRound t_bestPlace t_bestAdds t_regret t_z t_s r1 hq1) (u_X8_odds_X8_inNone_242 hts) (ci := 8) rfl 0 rfl rfl (by decide +kernel) [some 0, some 1, none, none] (by decide +kernel) rfl rfl rfl hl.1 rfl (Nat.le_of_ble_eq_true rfl) dX8_odds_1 (fun H locs S => ?_)
  refine lv_istore_n (pc := 4) (lv' := [(2, .int r1), (0, .ref a_t), (1, .int x1)]) hx hb dX8_odds_4 rfl hl (by decide) rfl (fun ls hl => ?_)
  refine lv_iload_n (pc := 5) hx hb dX8_odds_5 rfl (lv_at hl 2 rfl) ?_
  refine lv_iconst (pc := 6) hx hb dX8_odds_6 ic_0 ?_
  refine lv_iconst (pc := 7) hx hb dX8_odds_7 ic_1 ?_
  obtain ⟨r2, hq2, hf⟩ := bd_e hf
  refine x_sI (pc := 8) (As := [.int x1, .int (0 : Int32), .int (1 : Int32)]) (rest := []) (isC := []) (ws' := (w_X8_odds G a_t a_t_s a_t_image a_t_mind a_t_aside a_t_text a_t_read a_t_comes a_t_begins a_t_latest a_t_move a_t_sort a_t_items a_t_cell a_t_carried t_isKept t_work t_kind t_letters t_at t_fault t_back t_waits t_miles t_loads t_bestRound t_bestPlace t_bestAdds t_regret t_z t_s t_comes t_begins)) C S (c_X8_isIn l G x1 (0 : Int32) (1 : Int32) r2 hq2) (u_X8_odds_X8_isIn_55 hts) rfl (by decide +kernel) [none, none, none, none] (by decide +kernel) rfl rfl rfl hl.1 rfl (Nat.le_of_ble_eq_true rfl) dX8_odds_8 (fun H locs S => ?_)
  refine lv_if_eq (tgt := 18) (pc := 11) hx hb dX8_odds_11 (by decide) (fun c3 => ?_) (fun c3 => ?_)
  · have hf := ifp c3 hf
    refine lv_ldc2 (pc := 18) hx hb hown (hts _ qk_8_260) dX8_odds_18 ?_
    cases hf
    exact x_lret (pc := 21) C S dX8_odds_21
  · have hf := ifn c3 hf
    refine lv_iload_n (pc := 14) hx hb dX8_odds_14 rfl (lv_at hl 0 rfl) ?_
    refine lv_if_ne (tgt := 22) (pc := 15) hx hb dX8_odds_15 (by decide) (fun c4 => ?_) (fun c4 => ?_)
    · have hf := ifn c4 hf
      refine lv_iconst (pc := 22) hx hb dX8_odds_22 ic_0 ?_
      refine lv_istore_n (pc := 23) (lv' := [(3, .int (0 : Int32)), (2, .int r1), (0, .ref a_t), (1, .int x1)]) hx hb dX8_odds_23 rfl hl (by decide) rfl (fun ls hl => ?_)
      refine lv_iconst (pc := 24) hx hb dX8_odds_24 ic_0 ?_
      refine lv_istore (pc := 25) (lv' := [(4, .int (0 : Int32)), (3, .int (0 : Int32)), (2, .int r1), (0, .ref a_t), (1, .int x1)]) hx hb dX8_odds_25 hl (by decide) rfl (fun ls hl => ?_)
      exact h_X8_odds_27 C (t_isKept) (t_work) (t_kind) (t_letters) (t_at) (t_fault) (t_miles) (t_z) (x1) (r1) fu ((0 : Int32)) ((0 : Int32)) (t_s) (t_comes) (t_begins) (t_back) (t_waits) (t_loads) (t_bestRound) (t_bestPlace) (t_bestAdds) (t_regret) hf S (lv_sub hl [3, 4, 2, 1, 0] rfl)
    · have hf := ifp c4 hf
      refine lv_ldc2 (pc := 18) hx hb hown (hts _ qk_8_260) dX8_odds_18 ?_
      cases hf
      exact x_lret (pc := 21) C S dX8_odds_21
end

abbrev rm_X8_of : Room := { frames := 5, cells := 0, slots := 0, locals := 124 }
abbrev kw_X8_of : Cond := .code yX8_of cX8_of 5 (some .int)
abbrev w_X8_of (G : GE) (a_t a_t_s a_t_image a_t_mind a_t_aside a_t_text a_t_read a_t_comes a_t_begins a_t_latest a_t_move a_t_sort a_t_items a_t_cell a_t_carried : Nat) (t_isKept : Int32) (t_work : Int32) (t_kind : Int32) (t_letters : Int32) (t_at : Int32) (t_fault : Int32) (t_back : Int32) (t_waits : Int32) (t_miles : Int32) (t_loads : Int32) (t_bestRound : Int32) (t_bestPlace : Int32) (t_bestAdds : Int32) (t_regret : Int32) (t_z : Int32) (t_s : Nat → Int32) (t_comes : Nat → Int32) (t_begins : Nat → Int32) (t_latest : Nat → Int32) : va_W := [(a_t, ob 8 [.ref a_t_s, .ref a_t_image, .ref a_t_mind, .ref a_t_aside, .int t_isKept, .int t_work, .int t_kind, .ref a_t_text, .ref a_t_read, .int t_letters, .int t_at, .int t_fault, .ref a_t_comes, .ref a_t_begins, .ref a_t_latest, .int t_back, .int t_waits, .int t_miles, .int t_loads, .int t_bestRound, .int t_bestPlace, .int t_bestAdds, .int t_regret, .ref a_t_move, .ref a_t_sort, .ref a_t_items, .ref a_t_cell, .ref a_t_carried, .int t_z]), (a_t_s, aI G 258 t_s), (a_t_comes, aI G 16 t_comes), (a_t_begins, aI G 16 t_begins), (a_t_latest, aI G 16 t_latest)]
theorem u_X8_of_X8_isStop_151 {s : State} {args : Array Value} (hts : ∀ w ∈ WU, w.before args s = true) : CallW rm_X8_of s args RX8 RX8 151 yX8_isStop cX8_isStop 2 (some .boolean) (kw_X8_isStop :: WU) rm_X8_isStop 0 0 1 := cwV 1 hts (gV qm_8_151 qi_X8_isStop ql_X8_isStop qn_8 qc_X8_isStop) rfl rfl rfl (by decide +kernel) ⟨Nat.le_of_ble_eq_true rfl, Nat.le_of_ble_eq_true rfl⟩
theorem u_X8_of_X8_isIn_55 {s : State} {args : Array Value} (hts : ∀ w ∈ WU, w.before args s = true) : CallB rm_X8_of s args RX8 55 yX8_isIn cX8_isIn 3 (some .boolean) (kw_X8_isIn :: WU) rm_X8_isIn 0 0 3 ∧ (Cond.static yX8_isIn).before args s = true := va_cwS 3 hts (gS qm_8_55 qs_X8_isIn qn_8 qc_X8_isIn) rfl rfl rfl (by decide +kernel) ⟨Nat.le_of_ble_eq_true rfl, Nat.le_of_ble_eq_true rfl⟩
theorem u_X8_of_X8_roundOf_157 {s : State} {args : Array Value} (hts : ∀ w ∈ WU, w.before args s = true) : CallW rm_X8_of s args RX8 RX8 157 yX8_roundOf cX8_roundOf 3 (some .int) (kw_X8_roundOf :: WU) rm_X8_roundOf 0 0 1 := cwV 1 hts (gV qm_8_157 qi_X8_roundOf ql_X8_roundOf qn_8 qc_X8_roundOf) rfl rfl rfl (by decide +kernel) ⟨Nat.le_of_ble_eq_true rfl, Nat.le_of_ble_eq_true rfl⟩
theorem u_X8_of_X8_placeIn_66 {s : State} {args : Array Value} (hts : ∀ w ∈ WU, w.before args s = true) : CallW rm_X8_of s args RX8 RX8 66 yX8_placeIn cX8_placeIn 4 (some .int) (kw_X8_placeIn :: WU) rm_X8_placeIn 0 0 2 := cwV 2 hts (gV qm_8_66 qi_X8_placeIn ql_X8_placeIn qn_8 qc_X8_placeIn) rfl rfl rfl (by decide +kernel) ⟨Nat.le_of_ble_eq_true rfl, Nat.le_of_ble_eq_true rfl⟩
theorem u_X8_of_X8_latest_160 {s : State} {args : Array Value} (hts : ∀ w ∈ WU, w.before args s = true) : CallW rm_X8_of s args RX8 RX8 160 yX8_latest cX8_latest 6 none (kw_X8_latest :: WU) rm_X8_latest 0 0 1 := cwV 1 hts (gV qm_8_160 qi_X8_latest ql_X8_latest qn_8 qc_X8_latest) rfl rfl rfl (by decide +kernel) ⟨Nat.le_of_ble_eq_true rfl, Nat.le_of_ble_eq_true rfl⟩
theorem u_X8_of_X8_stopAt_78 {s : State} {args : Array Value} (hts : ∀ w ∈ WU, w.before args s = true) : CallW rm_X8_of s args RX8 RX8 78 yX8_stopAt cX8_stopAt 3 (some .int) (kw_X8_stopAt :: WU) rm_X8_stopAt 0 0 2 := cwV 2 hts (gV qm_8_78 qi_X8_stopAt ql_X8_stopAt qn_8 qc_X8_stopAt) rfl rfl rfl (by decide +kernel) ⟨Nat.le_of_ble_eq_true rfl, Nat.le_of_ble_eq_true rfl⟩
section
variable {p : Program} {l : Launch} {e : Env} {s : State} {m : MethodId} {args : Array Value} {below : List Frame} {meth : Method} {c : Code} {A : Nat → Prop} {G : GE} {a_t a_t_s a_t_image a_t_mind a_t_aside a_t_text a_t_read a_t_comes a_t_begins a_t_latest a_t_move a_t_sort a_t_items a_t_cell a_t_carried : Nat} {r : Int32} {z_t_comes : Nat → Int32} {z_t_begins : Nat → Int32} {z_t_latest : Nat → Int32} {z_t_back : Int32} {z_t_waits : Int32} {z_t_loads : Int32}
set_option maxRecDepth 100000 in
set_option maxHeartbeats 4000000 in
theorem c_X8_of (l : Launch) (G : GE) (a_t a_t_s a_t_image a_t_mind a_t_aside a_t_text a_t_read a_t_comes a_t_begins a_t_latest a_t_move a_t_sort a_t_items a_t_cell a_t_carried : Nat) (t_isKept : Int32) (t_work : Int32) (t_kind : Int32) (t_letters : Int32) (t_at : Int32) (t_fault : Int32) (t_back : Int32) (t_waits : Int32) (t_miles : Int32) (t_loads : Int32) (t_bestRound : Int32) (t_bestPlace : Int32) (t_bestAdds : Int32) (t_regret : Int32) (t_z : Int32) (t_s : Nat → Int32) (t_comes : Nat → Int32) (t_begins : Nat → Int32) (t_latest : Nat → Int32) (x1 : Int32) (x2 : Int32) (r : Int32) (z_t_comes : Nat → Int32) (z_t_begins : Nat → Int32) (z_t_latest : Nat → Int32) (z_t_back : Int32) (z_t_waits : Int32) (z_t_loads : Int32) (hf : f_X8_of t_s t_comes t_begins t_latest t_back t_waits t_loads x1 x2 = some (r, z_t_comes, z_t_begins, z_t_latest, z_t_back, z_t_waits, z_t_loads)) : CI l G yX8_of kw_X8_of rm_X8_of [.ref a_t, .int x1, .int x2] (w_X8_of G a_t a_t_s a_t_image a_t_mind a_t_aside a_t_text a_t_read a_t_comes a_t_begins a_t_latest a_t_move a_t_sort a_t_items a_t_cell a_t_carried t_isKept t_work t_kind t_letters t_at t_fault t_back t_waits t_miles t_loads t_bestRound t_bestPlace t_bestAdds t_regret t_z t_s t_comes t_begins t_latest) r (w_X8_of G a_t a_t_s a_t_image a_t_mind a_t_aside a_t_text a_t_read a_t_comes a_t_begins a_t_latest a_t_move a_t_sort a_t_items a_t_cell a_t_carried t_isKept t_work t_kind t_letters t_at t_fault z_t_back z_t_waits t_miles z_t_loads t_bestRound t_bestPlace t_bestAdds t_regret t_z t_s z_t_comes z_t_begins z_t_latest) := by
  refine en_I (cc := cX8_of) (maxL := 5) (ret := (some .int)) (by decide +kernel) (Nat.le_of_ble_eq_true rfl) ?_
  intro p e s m args below meth c A ls C S hl
  have hl : lv_has ls 5 [(0, .ref a_t), (1, .int x1), (2, .int x2)] := hl
  have C : Cx p s m args meth c cX8_of (some .int) 5 RX8 G A := C
  unfold f_X8_of at hf
  have hx := C.1
  have hb := C.2.1
  have hown := C.2.2.2.2.1
  have hts := C.2.2.2.2.2.1
  have hN := C.2.2.2.2.2.2.2.2.2.2
  refine lv_aload_n (pc := 0) hx hb dX8_of_0 rfl (lv_at hl 0 rfl) ?_
  refine lv_iload_n (pc := 1) hx hb dX8_of_1 rfl (lv_at hl 1 rfl) ?_
  obtain ⟨r1, hq1, hf⟩ := bd_e hf
  refine x_vI (pc := 2) (As := [.int x1]) (rest := []) (isC := [0, 1]) (ws' := (w_X8_of G a_t a_t_s a_t_image a_t_mind a_t_aside a_t_text a_t_read a_t_comes a_t_begins a_t_latest a_t_move a_t_sort a_t_items a_t_cell a_t_carried t_isKept t_work t_kind t_letters t_at t_fault t_back t_waits t_miles t_loads t_bestRound t_bestPlace t_bestAdds t_regret t_z t_s t_comes t_begins t_latest)) C S (c_X8_isStop l G a_t a_t_s a_t_image a_t_mind a_t_aside a_t_text a_t_read a_t_comes a_t_begins a_t_latest a_t_move a_t_sort a_t_items a_t_cell a_t_carried t_isKept t_work t_kind t_letters t_at t_fault t_back t_waits t_miles t_loads t_bestRound t_bestPlace t_bestAdds t_regret t_z t_s x1 r1 hq1) (u_X8_of_X8_isStop_151 hts) (ci := 8) rfl 0 rfl rfl (by decide +kernel) [some 0, some 1, none, none, none] (by decide +kernel) rfl rfl rfl hl.1 rfl (Nat.le_of_ble_eq_true rfl) dX8_of_2 (fun H locs S => ?_)
  refine lv_if_eq (tgt := 18) (pc := 5) hx hb dX8_of_5 (by decide) (fun c2 => ?_) (fun c2 => ?_)
  · have hf := ifp c2 hf
    refine lv_iconst (pc := 18) hx hb dX8_of_18 ic_m1 ?_
    cases hf
    exact x_iret (pc := 19) C S dX8_of_19
  · have hf := ifn c2 hf
    refine lv_iload_n (pc := 8) hx hb dX8_of_8 rfl (lv_at hl 2 rfl) ?_
    refine lv_iconst (pc := 9) hx hb dX8_of_9 ic_0 ?_
    refine lv_bipush (pc := 10) hx hb dX8_of_10 bc_11 ?_
    obtain ⟨r3, hq3, hf⟩ := bd_e hf
    refine x_sI (pc := 12) (As := [.int x2, .int (0 : Int32), .int (11 : Int32)]) (rest := []) (isC := []) (ws' := (w_X8_of G a_t a_t_s a_t_image a_t_mind a_t_aside a_t_text a_t_read a_t_comes a_t_begins a_t_latest a_t_move a_t_sort a_t_items a_t_cell a_t_carried t_isKept t_work t_kind t_letters t_at t_fault t_back t_waits t_miles t_loads t_bestRound t_bestPlace t_bestAdds t_regret t_z t_s t_comes t_begins t_latest)) C S (c_X8_isIn l G x2 (0 : Int32) (11 : Int32) r3 hq3) (u_X8_of_X8_isIn_55 hts) rfl (by decide +kernel) [none, none, none, none, none] (by decide +kernel) rfl rfl rfl hl.1 rfl (Nat.le_of_ble_eq_true rfl) dX8_of_12 (fun H locs S => ?_)
    refine lv_if_ne (tgt := 20) (pc := 15) hx hb dX8_of_15 (by decide) (fun c4 => ?_) (fun c4 => ?_)
    · have hf := ifn c4 hf
      refine lv_iload_n (pc := 20) hx hb dX8_of_20 rfl (lv_at hl 2 rfl) ?_
      refine lv_bipush (pc := 21) hx hb dX8_of_21 bc_6 ?_
      refine lv_icmp_ge (tgt := 33) (pc := 23) hx hb dX8_of_23 (by decide) (fun c5 => ?_) (fun c5 => ?_)
      · have hf := ifp c5 hf
        refine lv_aload_n (pc := 33) hx hb dX8_of_33 rfl (lv_at hl 0 rfl) ?_
        refine lv_iload_n (pc := 34) hx hb dX8_of_34 rfl (lv_at hl 1 rfl) ?_
        obtain ⟨r6, hq6, hf⟩ := bd_e hf
        refine x_vI (pc := 35) (As := [.int x1]) (rest := []) (isC := [0, 1]) (ws' := (w_X8_of G a_t a_t_s a_t_image a_t_mind a_t_aside a_t_text a_t_read a_t_comes a_t_begins a_t_latest a_t_move a_t_sort a_t_items a_t_cell a_t_carried t_isKept t_work t_kind t_letters t_at t_fault t_back t_waits t_miles t_loads t_bestRound t_bestPlace t_bestAdds t_regret t_z t_s t_comes t_begins t_latest)) C S (c_X8_roundOf l G a_t a_t_s a_t_image a_t_mind a_t_aside a_t_text a_t_read a_t_comes a_t_begins a_t_latest a_t_move a_t_sort a_t_items a_t_cell a_t_carried t_isKept t_work t_kind t_letters t_at t_fault t_back t_waits t_miles t_loads t_bestRound t_bestPlace t_bestAdds t_regret t_z t_s x1 r6 hq6) (u_X8_of_X8_roundOf_157 hts) (ci := 8) rfl 0 rfl rfl (by decide +kernel) [some 0, some 1, none, none, none] (by decide +kernel) rfl rfl rfl hl.1 rfl (Nat.le_of_ble_eq_true rfl) dX8_of_35 (fun H locs S => ?_)
        refine lv_istore_n (pc := 38) (lv' := [(3, .int r6), (0, .ref a_t), (1, .int x1), (2, .int x2)]) hx hb dX8_of_38 rfl hl (by decide) rfl (fun ls hl => ?_)
        refine lv_iload_n (pc := 39) hx hb dX8_of_39 rfl (lv_at hl 3 rfl) ?_
        refine lv_bipush (pc := 40) hx hb dX8_of_40 bc_8 ?_
        refine lv_icmp_ne (tgt := 53) (pc := 42) hx hb dX8_of_42 (by decide) (fun c7 => ?_) (fun c7 => ?_)
        · have hf := ifn c7 hf
          refine lv_iload_n (pc := 53) hx hb dX8_of_53 rfl (lv_at hl 0 rfl) ?_
          refine lv_if_ge (tgt := 60) (pc := 54) hx hb dX8_of_54 (by decide) (fun c8 => ?_) (fun c8 => ?_)
          · have hf := ifp c8 hf
            refine lv_aload_n (pc := 60) hx hb dX8_of_60 rfl (lv_at hl 1 rfl) ?_
            refine lv_iload_n (pc := 61) hx hb dX8_of_61 rfl (lv_at hl 0 rfl) ?_
            refine lv_iload_n (pc := 62) hx hb dX8_of_62 rfl (lv_at hl 2 rfl) ?_
            obtain ⟨r9, hq9, hf⟩ := bd_e hf
            refine x_vI (pc := 63) (As := [.int r6, .int x1]) (rest := []) (isC := [0, 1]) (ws' := (w_X8_of G a_t a_t_s a_t_image a_t_mind a_t_aside a_t_text a_t_read a_t_comes a_t_begins a_t_latest a_t_move a_t_sort a_t_items a_t_cell a_t_carried t_isKept t_work t_kind t_letters t_at t_fault t_back t_waits t_miles t_loads t_bestRound t_bestPlace t_bestAdds t_regret t_z t_s t_comes t_begins t_latest)) C S (c_X8_placeIn l G a_t a_t_s a_t_image a_t_mind a_t_aside a_t_text a_t_read a_t_comes a_t_begins a_t_latest a_t_move a_t_sort a_t_items a_t_cell a_t_carried t_isKept t_work t_kind t_letters t_at t_fault t_back t_waits t_miles t_loads t_bestRound t_bestPlace t_bestAdds t_regret t_z t_s r6 x1 r9 hq9) (u_X8_of_X8_placeIn_66 hts) (ci := 8) rfl 0 rfl rfl (by decide +kernel) [some 0, some 1, none, none, none] (by decide +kernel) rfl rfl rfl hl.1 rfl (Nat.le_of_ble_eq_true rfl) dX8_of_63 (fun H locs S => ?_)
            refine lv_istore (pc := 66) (lv' := [(4, .int r9), (3, .int r6), (0, .ref a_t), (1, .int x1), (2, .int x2)]) hx hb dX8_of_66 hl (by decide) rfl (fun ls hl => ?_)
            refine lv_aload_n (pc := 68) hx hb dX8_of_68 rfl (lv_at hl 2 rfl) ?_
            refine lv_iload_n (pc := 69) hx hb dX8_of_69 rfl (lv_at hl 1 rfl) ?_
            obtain ⟨⟨o10_t_comes, o10_t_begins, o10_t_latest, o10_t_back, o10_t_waits, o10_t_loads⟩, hq10, hf⟩ := bd_e hf
            refine x_vV (pc := 70) (As := [.int r6]) (rest := []) (isC := [0, 1, 2, 3, 4]) (ws' := (w_X8_of G a_t a_t_s a_t_image a_t_mind a_t_aside a_t_text a_t_read a_t_comes a_t_begins a_t_latest a_t_move a_t_sort a_t_items a_t_cell a_t_carried t_isKept t_work t_kind t_letters t_at t_fault o10_t_back o10_t_waits t_miles o10_t_loads t_bestRound t_bestPlace t_bestAdds t_regret t_z t_s o10_t_comes o10_t_begins o10_t_latest)) C S (c_X8_latest l G a_t a_t_s a_t_image a_t_mind a_t_aside a_t_text a_t_read a_t_comes a_t_begins a_t_latest a_t_move a_t_sort a_t_items a_t_cell a_t_carried t_isKept t_work t_kind t_letters t_at t_fault t_back t_waits t_miles t_loads t_bestRound t_bestPlace t_bestAdds t_regret t_z t_s t_comes t_begins t_latest r6 o10_t_comes o10_t_begins o10_t_latest o10_t_back o10_t_waits o10_t_loads hq10) (u_X8_of_X8_latest_160 hts) (ci := 8) rfl 0 rfl rfl (by decide +kernel) [some 0, some 1, some 2, some 3, some 4] (by decide +kernel) rfl rfl rfl hl.1 rfl (Nat.le_of_ble_eq_true rfl) dX8_of_70 (fun H locs S => ?_)
            refine lv_iload_n (pc := 73) hx hb dX8_of_73 rfl (lv_at hl 4 rfl) ?_
            refine lv_bipush (pc := 74) hx hb dX8_of_74 bc_6 ?_
            refine lv_icmp_ne (tgt := 83) (pc := 76) hx hb dX8_of_76 (by decide) (fun c11 => ?_) (fun c11 => ?_)
            · have hf := ifn c11 hf
              refine lv_iload_n (pc := 83) hx hb dX8_of_83 rfl (lv_at hl 4 rfl) ?_
              refine lv_bipush (pc := 84) hx hb dX8_of_84 bc_7 ?_
              refine lv_icmp_ne (tgt := 94) (pc := 86) hx hb dX8_of_86 (by decide) (fun c12 => ?_) (fun c12 => ?_)
              · have hf := ifn c12 hf
                refine lv_iload_n (pc := 94) hx hb dX8_of_94 rfl (lv_at hl 4 rfl) ?_
                refine lv_bipush (pc := 95) hx hb dX8_of_95 bc_9 ?_
                refine lv_icmp_ne (tgt := 110) (pc := 97) hx hb dX8_of_97 (by decide) (fun c13 => ?_) (fun c13 => ?_)
                · have hf := ifn c13 hf
                  refine lv_iload_n (pc := 110) hx hb dX8_of_110 rfl (lv_at hl 4 rfl) ?_
                  refine lv_bipush (pc := 111) hx hb dX8_of_111 bc_10 ?_
                  refine lv_icmp_ne (tgt := 126) (pc := 113) hx hb dX8_of_113 (by decide) (fun c14 => ?_) (fun c14 => ?_)
                  · have hf := ifn c14 hf
                    refine lv_aload_n (pc := 126) hx hb dX8_of_126 rfl (lv_at hl 2 rfl) ?_
                    refine x_get (pc := 127) (ci := 8) (T := TX8) (v := .ref a_t_latest) C S 0 rfl rfl inlX8 14 (by decide) rfl qf_8_36 rfl dX8_of_127 ?_
                    refine lv_iload (pc := 130) hx hb dX8_of_130 (lv_at hl 0 rfl) ?_
                    obtain ⟨hv15, hf⟩ := gI_e hf
                    refine x_iald (pc := 132) C S 4 rfl hv15 dX8_of_132 ?_
                    refine lv_aload_n (pc := 133) hx hb dX8_of_133 rfl (lv_at hl 2 rfl) ?_
                    refine x_get (pc := 134) (ci := 8) (T := TX8) (v := .ref a_t_begins) C S 0 rfl rfl inlX8 13 (by decide) rfl qf_8_33 rfl dX8_of_134 ?_
                    refine lv_iload (pc := 137) hx hb dX8_of_137 (lv_at hl 0 rfl) ?_
                    refine x_iald (pc := 139) C S 3 rfl hv15 dX8_of_139 ?_
                    refine lv_isub (pc := 140) hx hb dX8_of_140 ?_
                    cases hf
                    exact x_iret (pc := 141) C S dX8_of_141
                  · have hf := ifp c14 hf
                    refine lv_aload_n (pc := 116) hx hb dX8_of_116 rfl (lv_at hl 2 rfl) ?_
                    refine x_get (pc := 117) (ci := 8) (T := TX8) (v := .ref a_t_begins) C S 0 rfl rfl inlX8 13 (by decide) rfl qf_8_33 rfl dX8_of_117 ?_
                    refine lv_iload (pc := 120) hx hb dX8_of_120 (lv_at hl 0 rfl) ?_
                    obtain ⟨hv16, hf⟩ := gI_e hf
                    refine x_iald (pc := 122) C S 3 rfl hv16 dX8_of_122 ?_
                    refine lv_goto (tgt := 141) (pc := 123) hx hb dX8_of_123 (by decide) ?_
                    cases hf
                    exact x_iret (pc := 141) C S dX8_of_141
                · have hf := ifp c13 hf
                  refine lv_aload_n (pc := 100) hx hb dX8_of_100 rfl (lv_at hl 2 rfl) ?_
                  refine x_get (pc := 101) (ci := 8) (T := TX8) (v := .ref a_t_comes) C S 0 rfl rfl inlX8 12 (by decide) rfl qf_8_30 rfl dX8_of_101 ?_
                  refine lv_iload (pc := 104) hx hb dX8_of_104 (lv_at hl 0 rfl) ?_
                  obtain ⟨hv17, hf⟩ := gI_e hf
                  refine x_iald (pc := 106) C S 2 rfl hv17 dX8_of_106 ?_
                  refine lv_goto (tgt := 141) (pc := 107) hx hb dX8_of_107 (by decide) ?_
                  cases hf
                  exact x_iret (pc := 141) C S dX8_of_141
              · have hf := ifp c12 hf
                refine lv_iload (pc := 89) hx hb dX8_of_89 (lv_at hl 0 rfl) ?_
                refine lv_goto (tgt := 141) (pc := 91) hx hb dX8_of_91 (by decide) ?_
                cases hf
                exact x_iret (pc := 141) C S dX8_of_141
            · have hf := ifp c11 hf
              refine lv_iload_n (pc := 79) hx hb dX8_of_79 rfl (lv_at hl 1 rfl) ?_
              refine lv_goto (tgt := 141) (pc := 80) hx hb dX8_of_80 (by decide) ?_
              cases hf
              exact x_iret (pc := 141) C S dX8_of_141
          · have hf := ifn c8 hf
            refine lv_bipush (pc := 57) hx hb dX8_of_57 bc_m5 ?_
            cases hf
            exact x_iret (pc := 59) C S dX8_of_59
        · have hf := ifp c7 hf
          refine lv_aload_n (pc := 45) hx hb dX8_of_45 rfl (lv_at hl 1 rfl) ?_
          refine lv_iload_n (pc := 46) hx hb dX8_of_46 rfl (lv_at hl 2 rfl) ?_
          refine lv_bipush (pc := 47) hx hb dX8_of_47 bc_6 ?_
          obtain ⟨r18, hq18, hf⟩ := bd_e hf
          refine x_vI (pc := 49) (As := [.int x1, .int (6 : Int32)]) (rest := []) (isC := [0, 1]) (ws' := (w_X8_of G a_t a_t_s a_t_image a_t_mind a_t_aside a_t_text a_t_read a_t_comes a_t_begins a_t_latest a_t_move a_t_sort a_t_items a_t_cell a_t_carried t_isKept t_work t_kind t_letters t_at t_fault t_back t_waits t_miles t_loads t_bestRound t_bestPlace t_bestAdds t_regret t_z t_s t_comes t_begins t_latest)) C S (c_X8_stopAt l G a_t a_t_s a_t_image a_t_mind a_t_aside a_t_text a_t_read a_t_comes a_t_begins a_t_latest a_t_move a_t_sort a_t_items a_t_cell a_t_carried t_isKept t_work t_kind t_letters t_at t_fault t_back t_waits t_miles t_loads t_bestRound t_bestPlace t_bestAdds t_regret t_z t_s x1 (6 : Int32) r18 hq18) (u_X8_of_X8_stopAt_78 hts) (ci := 8) rfl 0 rfl rfl (by decide +kernel) [some 0, some 1, none, none, none] (by decide +kernel) rfl rfl rfl hl.1 rfl (Nat.le_of_ble_eq_true rfl) dX8_of_49 (fun H locs S => ?_)
          cases hf
          exact x_iret (pc := 52) C S dX8_of_52
      · have hf := ifn c5 hf
        refine lv_aload_n (pc := 26) hx hb dX8_of_26 rfl (lv_at hl 0 rfl) ?_
        refine lv_iload_n (pc := 27) hx hb dX8_of_27 rfl (lv_at hl 1 rfl) ?_
        refine lv_iload_n (pc := 28) hx hb dX8_of_28 rfl (lv_at hl 2 rfl) ?_
        obtain ⟨r19, hq19, hf⟩ := bd_e hf
        refine x_vI (pc := 29) (As := [.int x1, .int x2]) (rest := []) (isC := [0, 1]) (ws' := (w_X8_of G a_t a_t_s a_t_image a_t_mind a_t_aside a_t_text a_t_read a_t_comes a_t_begins a_t_latest a_t_move a_t_sort a_t_items a_t_cell a_t_carried t_isKept t_work t_kind t_letters t_at t_fault t_back t_waits t_miles t_loads t_bestRound t_bestPlace t_bestAdds t_regret t_z t_s t_comes t_begins t_latest)) C S (c_X8_stopAt l G a_t a_t_s a_t_image a_t_mind a_t_aside a_t_text a_t_read a_t_comes a_t_begins a_t_latest a_t_move a_t_sort a_t_items a_t_cell a_t_carried t_isKept t_work t_kind t_letters t_at t_fault t_back t_waits t_miles t_loads t_bestRound t_bestPlace t_bestAdds t_regret t_z t_s x1 x2 r19 hq19) (u_X8_of_X8_stopAt_78 hts) (ci := 8) rfl 0 rfl rfl (by decide +kernel) [some 0, some 1, none, none, none] (by decide +kernel) rfl rfl rfl hl.1 rfl (Nat.le_of_ble_eq_true rfl) dX8_of_29 (fun H locs S => ?_)
        cases hf
        exact x_iret (pc := 32) C S dX8_of_32
    · have hf := ifp c4 hf
      refine lv_iconst (pc := 18) hx hb dX8_of_18 ic_m1 ?_
      cases hf
      exact x_iret (pc := 19) C S dX8_of_19
end

abbrev rm_X8_peek : Room := { frames := 2, cells := 0, slots := 0, locals := 42 }
abbrev kw_X8_peek : Cond := .code yX8_peek cX8_peek 3 (some .long)
abbrev w_X8_peek (G : GE) (a_t a_t_s a_t_image a_t_mind a_t_aside a_t_text a_t_read a_t_comes a_t_begins a_t_latest a_t_move a_t_sort a_t_items a_t_cell a_t_carried : Nat) (t_isKept : Int32) (t_work : Int32) (t_kind : Int32) (t_letters : Int32) (t_at : Int32) (t_fault : Int32) (t_back : Int32) (t_waits : Int32) (t_miles : Int32) (t_loads : Int32) (t_bestRound : Int32) (t_bestPlace : Int32) (t_bestAdds : Int32) (t_regret : Int32) (t_z : Int32) (t_sort : Nat → Int32) (t_items : Nat → Int32) (t_cell : Nat → Int64) : va_W := [(a_t, ob 8 [.ref a_t_s, .ref a_t_image, .ref a_t_mind, .ref a_t_aside, .int t_isKept, .int t_work, .int t_kind, .ref a_t_text, .ref a_t_read, .int t_letters, .int t_at, .int t_fault, .ref a_t_comes, .ref a_t_begins, .ref a_t_latest, .int t_back, .int t_waits, .int t_miles, .int t_loads, .int t_bestRound, .int t_bestPlace, .int t_bestAdds, .int t_regret, .ref a_t_move, .ref a_t_sort, .ref a_t_items, .ref a_t_cell, .ref a_t_carried, .int t_z]), (a_t_sort, aI G 6 t_sort), (a_t_items, aI G 6 t_items), (a_t_cell, aJ G 360 t_cell)]
theorem u_X8_peek_X8_isTape_285 {s : State} {args : Array Value} (hts : ∀ w ∈ WU, w.before args s = true) : CallB rm_X8_peek s args RX8 285 yX8_isTape cX8_isTape 1 (some .boolean) (kw_X8_isTape :: WU) rm_X8_isTape 0 0 1 ∧ (Cond.static yX8_isTape).before args s = true := va_cwS 1 hts (gS qm_8_285 qs_X8_isTape qn_8 qc_X8_isTape) rfl rfl rfl (by decide +kernel) ⟨Nat.le_of_ble_eq_true rfl, Nat.le_of_ble_eq_true rfl⟩
theorem u_X8_peek_X8_isIn_55 {s : State} {args : Array Value} (hts : ∀ w ∈ WU, w.before args s = true) : CallB rm_X8_peek s args RX8 55 yX8_isIn cX8_isIn 3 (some .boolean) (kw_X8_isIn :: WU) rm_X8_isIn 0 0 3 ∧ (Cond.static yX8_isIn).before args s = true := va_cwS 3 hts (gS qm_8_55 qs_X8_isIn qn_8 qc_X8_isIn) rfl rfl rfl (by decide +kernel) ⟨Nat.le_of_ble_eq_true rfl, Nat.le_of_ble_eq_true rfl⟩
section
variable {p : Program} {l : Launch} {e : Env} {s : State} {m : MethodId} {args : Array Value} {below : List Frame} {meth : Method} {c : Code} {A : Nat → Prop} {G : GE} {a_t a_t_s a_t_image a_t_mind a_t_aside a_t_text a_t_read a_t_comes a_t_begins a_t_latest a_t_move a_t_sort a_t_items a_t_cell a_t_carried : Nat} {r : Int64}
set_option maxRecDepth 100000 in
set_option maxHeartbeats 4000000 in
theorem c_X8_peek (l : Launch) (G : GE) (a_t a_t_s a_t_image a_t_mind a_t_aside a_t_text a_t_read a_t_comes a_t_begins a_t_latest a_t_move a_t_sort a_t_items a_t_cell a_t_carried : Nat) (t_isKept : Int32) (t_work : Int32) (t_kind : Int32) (t_letters : Int32) (t_at : Int32) (t_fault : Int32) (t_back : Int32) (t_waits : Int32) (t_miles : Int32) (t_loads : Int32) (t_bestRound : Int32) (t_bestPlace : Int32) (t_bestAdds : Int32) (t_regret : Int32) (t_z : Int32) (t_sort : Nat → Int32) (t_items : Nat → Int32) (t_cell : Nat → Int64) (x1 : Int32) (x2 : Int32) (r : Int64) (hf : f_X8_peek t_sort t_items t_cell x1 x2 = some r) : CL l G yX8_peek kw_X8_peek rm_X8_peek [.ref a_t, .int x1, .int x2] (w_X8_peek G a_t a_t_s a_t_image a_t_mind a_t_aside a_t_text a_t_read a_t_comes a_t_begins a_t_latest a_t_move a_t_sort a_t_items a_t_cell a_t_carried t_isKept t_work t_kind t_letters t_at t_fault t_back t_waits t_miles t_loads t_bestRound t_bestPlace t_bestAdds t_regret t_z t_sort t_items t_cell) r (w_X8_peek G a_t a_t_s a_t_image a_t_mind a_t_aside a_t_text a_t_read a_t_comes a_t_begins a_t_latest a_t_move a_t_sort a_t_items a_t_cell a_t_carried t_isKept t_work t_kind t_letters t_at t_fault t_back t_waits t_miles t_loads t_bestRound t_bestPlace t_bestAdds t_regret t_z t_sort t_items t_cell) := by
  refine en_L (cc := cX8_peek) (maxL := 3) (ret := (some .long)) (by decide +kernel) (Nat.le_of_ble_eq_true rfl) ?_
  intro p e s m args below meth c A ls C S hl
  have hl : lv_has ls 3 [(0, .ref a_t), (1, .int x1), (2, .int x2)] := hl
  have C : Cx p s m args meth c cX8_peek (some .long) 3 RX8 G A := C
  unfold f_X8_peek at hf
  have hx := C.1
  have hb := C.2.1
  have hown := C.2.2.2.2.1
  have hts := C.2.2.2.2.2.1
  have hN := C.2.2.2.2.2.2.2.2.2.2
  refine lv_iload_n (pc := 0) hx hb dX8_peek_0 rfl (lv_at hl 1 rfl) ?_
  obtain ⟨r1, hq1, hf⟩ := bd_e hf
  refine x_sI (pc := 1) (As := [.int x1]) (rest := []) (isC := []) (ws' := (w_X8_peek G a_t a_t_s a_t_image a_t_mind a_t_aside a_t_text a_t_read a_t_comes a_t_begins a_t_latest a_t_move a_t_sort a_t_items a_t_cell a_t_carried t_isKept t_work t_kind t_letters t_at t_fault t_back t_waits t_miles t_loads t_bestRound t_bestPlace t_bestAdds t_regret t_z t_sort t_items t_cell)) C S (c_X8_isTape l G x1 r1 hq1) (u_X8_peek_X8_isTape_285 hts) rfl (by decide +kernel) [none, none, none, none] (by decide +kernel) rfl rfl rfl hl.1 rfl (Nat.le_of_ble_eq_true rfl) dX8_peek_1 (fun H locs S => ?_)
  refine lv_if_eq (tgt := 46) (pc := 4) hx hb dX8_peek_4 (by decide) (fun c2 => ?_) (fun c2 => ?_)
  · have hf := ifp c2 hf
    refine lv_ldc2 (pc := 46) hx hb hown (hts _ qk_8_260) dX8_peek_46 ?_
    cases hf
    exact x_lret (pc := 49) C S dX8_peek_49
  · have hf := ifn c2 hf
    refine lv_aload_n (pc := 7) hx hb dX8_peek_7 rfl (lv_at hl 0 rfl) ?_
    refine x_get (pc := 8) (ci := 8) (T := TX8) (v := .ref a_t_sort) C S 0 rfl rfl inlX8 24 (by decide) rfl qf_8_42 rfl dX8_peek_8 ?_
    refine lv_iload_n (pc := 11) hx hb dX8_peek_11 rfl (lv_at hl 1 rfl) ?_
    obtain ⟨hv3, hf⟩ := gI_e hf
    refine x_iald (pc := 12) C S 1 rfl hv3 dX8_peek_12 ?_
    refine lv_if_lt (tgt := 46) (pc := 13) hx hb dX8_peek_13 (by decide) (fun c4 => ?_) (fun c4 => ?_)
    · have hf := ifp c4 hf
      refine lv_ldc2 (pc := 46) hx hb hown (hts _ qk_8_260) dX8_peek_46 ?_
      cases hf
      exact x_lret (pc := 49) C S dX8_peek_49
    · have hf := ifn c4 hf
      refine lv_iload_n (pc := 16) hx hb dX8_peek_16 rfl (lv_at hl 2 rfl) ?_
      refine lv_iconst (pc := 17) hx hb dX8_peek_17 ic_0 ?_
      refine lv_aload_n (pc := 18) hx hb dX8_peek_18 rfl (lv_at hl 0 rfl) ?_
      refine x_get (pc := 19) (ci := 8) (T := TX8) (v := .ref a_t_items) C S 0 rfl rfl inlX8 25 (by decide) rfl qf_8_45 rfl dX8_peek_19 ?_
      refine lv_iload_n (pc := 22) hx hb dX8_peek_22 rfl (lv_at hl 1 rfl) ?_
      refine x_iald (pc := 23) C S 2 rfl hv3 dX8_peek_23 ?_
      refine lv_iconst (pc := 24) hx hb dX8_peek_24 ic_1 ?_
      refine lv_isub (pc := 25) hx hb dX8_peek_25 ?_
      obtain ⟨r5, hq5, hf⟩ := bd_e hf
      refine x_sI (pc := 26) (As := [.int x2, .int (0 : Int32), .int ((t_items x1.toNatClampNeg) - (1 : Int32))]) (rest := []) (isC := []) (ws' := (w_X8_peek G a_t a_t_s a_t_image a_t_mind a_t_aside a_t_text a_t_read a_t_comes a_t_begins a_t_latest a_t_move a_t_sort a_t_items a_t_cell a_t_carried t_isKept t_work t_kind t_letters t_at t_fault t_back t_waits t_miles t_loads t_bestRound t_bestPlace t_bestAdds t_regret t_z t_sort t_items t_cell)) C S (c_X8_isIn l G x2 (0 : Int32) ((t_items x1.toNatClampNeg) - (1 : Int32)) r5 hq5) (u_X8_peek_X8_isIn_55 hts) rfl (by decide +kernel) [none, none, none, none] (by decide +kernel) rfl rfl rfl hl.1 rfl (Nat.le_of_ble_eq_true rfl) dX8_peek_26 (fun H locs S => ?_)
      refine lv_if_eq (tgt := 46) (pc := 29) hx hb dX8_peek_29 (by decide) (fun c6 => ?_) (fun c6 => ?_)
      · have hf := ifp c6 hf
        refine lv_ldc2 (pc := 46) hx hb hown (hts _ qk_8_260) dX8_peek_46 ?_
        cases hf
        exact x_lret (pc := 49) C S dX8_peek_49
      · have hf := ifn c6 hf
        refine lv_aload_n (pc := 32) hx hb dX8_peek_32 rfl (lv_at hl 0 rfl) ?_
        refine x_get (pc := 33) (ci := 8) (T := TX8) (v := .ref a_t_cell) C S 0 rfl rfl inlX8 26 (by decide) rfl qf_8_48 rfl dX8_peek_33 ?_
        refine lv_bipush (pc := 36) hx hb dX8_peek_36 bc_60 ?_
        refine lv_iload_n (pc := 38) hx hb dX8_peek_38 rfl (lv_at hl 1 rfl) ?_
        refine lv_imul (pc := 39) hx hb dX8_peek_39 ?_
        refine lv_iload_n (pc := 40) hx hb dX8_peek_40 rfl (lv_at hl 2 rfl) ?_
        refine lv_iadd (pc := 41) hx hb dX8_peek_41 ?_
        obtain ⟨hv7, hf⟩ := gI_e hf
        refine x_lald (pc := 42) C S 3 rfl hv7 dX8_peek_42 ?_
        refine lv_goto (tgt := 49) (pc := 43) hx hb dX8_peek_43 (by decide) ?_
        cases hf
        exact x_lret (pc := 49) C S dX8_peek_49
end

abbrev rm_X8_plan : Room := { frames := 2, cells := 0, slots := 0, locals := 43 }
abbrev kw_X8_plan : Cond := .code yX8_plan cX8_plan 3 (some .int)
abbrev w_X8_plan (G : GE) (a_t a_t_s a_t_image a_t_mind a_t_aside a_t_text a_t_read a_t_comes a_t_begins a_t_latest a_t_move a_t_sort a_t_items a_t_cell a_t_carried : Nat) (t_isKept : Int32) (t_work : Int32) (t_kind : Int32) (t_letters : Int32) (t_at : Int32) (t_fault : Int32) (t_back : Int32) (t_waits : Int32) (t_miles : Int32) (t_loads : Int32) (t_bestRound : Int32) (t_bestPlace : Int32) (t_bestAdds : Int32) (t_regret : Int32) (t_z : Int32) (t_s : Nat → Int32) : va_W := [(a_t, ob 8 [.ref a_t_s, .ref a_t_image, .ref a_t_mind, .ref a_t_aside, .int t_isKept, .int t_work, .int t_kind, .ref a_t_text, .ref a_t_read, .int t_letters, .int t_at, .int t_fault, .ref a_t_comes, .ref a_t_begins, .ref a_t_latest, .int t_back, .int t_waits, .int t_miles, .int t_loads, .int t_bestRound, .int t_bestPlace, .int t_bestAdds, .int t_regret, .ref a_t_move, .ref a_t_sort, .ref a_t_items, .ref a_t_cell, .ref a_t_carried, .int t_z]), (a_t_s, aI G 258 t_s)]
theorem u_X8_plan_X8_isIn_55 {s : State} {args : Array Value} (hts : ∀ w ∈ WU, w.before args s = true) : CallB rm_X8_plan s args RX8 55 yX8_isIn cX8_isIn 3 (some .boolean) (kw_X8_isIn :: WU) rm_X8_isIn 0 0 3 ∧ (Cond.static yX8_isIn).before args s = true := va_cwS 3 hts (gS qm_8_55 qs_X8_isIn qn_8 qc_X8_isIn) rfl rfl rfl (by decide +kernel) ⟨Nat.le_of_ble_eq_true rfl, Nat.le_of_ble_eq_true rfl⟩
theorem u_X8_plan_X8_isStop_151 {s : State} {args : Array Value} (hts : ∀ w ∈ WU, w.before args s = true) : CallW rm_X8_plan s args RX8 RX8 151 yX8_isStop cX8_isStop 2 (some .boolean) (kw_X8_isStop :: WU) rm_X8_isStop 0 0 1 := cwV 1 hts (gV qm_8_151 qi_X8_isStop ql_X8_isStop qn_8 qc_X8_isStop) rfl rfl rfl (by decide +kernel) ⟨Nat.le_of_ble_eq_true rfl, Nat.le_of_ble_eq_true rfl⟩
section
variable {p : Program} {l : Launch} {e : Env} {s : State} {m : MethodId} {args : Array Value} {below : List Frame} {meth : Method} {c : Code} {A : Nat → Prop} {G : GE} {a_t a_t_s a_t_image a_t_mind a_t_aside a_t_text a_t_read a_t_comes a_t_begins a_t_latest a_t_move a_t_sort a_t_items a_t_cell a_t_carried : Nat} {r : Int32} {z_t_s : Nat → Int32}
set_option maxRecDepth 100000 in
set_option maxHeartbeats 4000000 in
theorem k_X8_plan_57 (C : Cx p s m args meth c cX8_plan (some .int) 3 RX8 G A) (t_isKept : Int32) (t_work : Int32) (t_kind : Int32) (t_letters : Int32) (t_at : Int32) (t_fault : Int32) (t_back : Int32) (t_waits : Int32) (t_miles : Int32) (t_loads : Int32) (t_bestRound : Int32) (t_bestPlace : Int32) (t_bestAdds : Int32) (t_regret : Int32) (t_z : Int32) (t_s : Nat → Int32) (x1 : Int32) (x2 : Int32) {H : Heap} {locs : List Loc} {ls : Array Slot} (hf : b_X8_plan_57 x1 x2 t_s = some (r, z_t_s)) (S : St G A s.heap H locs (w_X8_plan G a_t a_t_s a_t_image a_t_mind a_t_aside a_t_text a_t_read a_t_comes a_t_begins a_t_latest a_t_move a_t_sort a_t_items a_t_cell a_t_carried t_isKept t_work t_kind t_letters t_at t_fault t_back t_waits t_miles t_loads t_bestRound t_bestPlace t_bestAdds t_regret t_z t_s)) (hl : lv_has ls 3 [(0, .ref a_t), (1, .int x1), (2, .int x2)]) : W p l e rm_X8_plan s m args below meth c H locs 0 0 (QI G below args s A r (w_X8_plan G a_t a_t_s a_t_image a_t_mind a_t_aside a_t_text a_t_read a_t_comes a_t_begins a_t_latest a_t_move a_t_sort a_t_items a_t_cell a_t_carried t_isKept t_work t_kind t_letters t_at t_fault t_back t_waits t_miles t_loads t_bestRound t_bestPlace t_bestAdds t_regret t_z z_t_s)) (F0 m 57 ls []) := by
  unfold b_X8_plan_57 at hf
  have hx := C.1
  have hb := C.2.1
  have hown := C.2.2.2.2.1
  have hts := C.2.2.2.2.2.1
  have hN := C.2.2.2.2.2.2.2.2.2.2
  refine lv_aload_n (pc := 57) hx hb dX8_plan_57 rfl (lv_at hl 0 rfl) ?_
  refine x_get (pc := 58) (ci := 8) (T := TX8) (v := .ref a_t_s) C S 0 rfl rfl inlX8 0 (by decide) rfl qf_8_11 rfl dX8_plan_58 ?_
  refine lv_bipush (pc := 61) hx hb dX8_plan_61 bc_6 ?_
  refine x_iald (pc := 63) C S 1 rfl (vp_in_iff.mpr (by decide)) dX8_plan_63 ?_
  refine lv_bipush (pc := 64) hx hb dX8_plan_64 bc_8 ?_
  refine lv_icmp_ne (tgt := 72) (pc := 66) hx hb dX8_plan_66 (by decide) (fun c1 => ?_) (fun c1 => ?_)
  · have hf := ifn c1 hf
    refine lv_aload_n (pc := 72) hx hb dX8_plan_72 rfl (lv_at hl 0 rfl) ?_
    refine x_get (pc := 73) (ci := 8) (T := TX8) (v := .ref a_t_s) C S 0 rfl rfl inlX8 0 (by decide) rfl qf_8_11 rfl dX8_plan_73 ?_
    refine lv_bipush (pc := 76) hx hb dX8_plan_76 bc_18 ?_
    refine lv_iconst (pc := 78) hx hb dX8_plan_78 ic_2 ?_
    refine lv_aload_n (pc := 79) hx hb dX8_plan_79 rfl (lv_at hl 0 rfl) ?_
    refine x_get (pc := 80) (ci := 8) (T := TX8) (v := .ref a_t_s) C S 0 rfl rfl inlX8 0 (by decide) rfl qf_8_11 rfl dX8_plan_80 ?_
    refine lv_bipush (pc := 83) hx hb dX8_plan_83 bc_6 ?_
    refine x_iald (pc := 85) C S 1 rfl (vp_in_iff.mpr (by decide)) dX8_plan_85 ?_
    refine lv_imul (pc := 86) hx hb dX8_plan_86 ?_
    refine lv_iadd (pc := 87) hx hb dX8_plan_87 ?_
    refine lv_iload_n (pc := 88) hx hb dX8_plan_88 rfl (lv_at hl 1 rfl) ?_
    obtain ⟨hv2, hf⟩ := gI_e hf
    refine x_iast (pc := 89) (ws' := (w_X8_plan G a_t a_t_s a_t_image a_t_mind a_t_aside a_t_text a_t_read a_t_comes a_t_begins a_t_latest a_t_move a_t_sort a_t_items a_t_cell a_t_carried t_isKept t_work t_kind t_letters t_at t_fault t_back t_waits t_miles t_loads t_bestRound t_bestPlace t_bestAdds t_regret t_z (upd t_s ((18 : Int32) + ((2 : Int32) * (t_s (6 : Int32).toNatClampNeg))).toNatClampNeg x1))) C S 1 rfl hv2 rfl dX8_plan_89 (fun H locs S => ?_)
    refine lv_aload_n (pc := 90) hx hb dX8_plan_90 rfl (lv_at hl 0 rfl) ?_
    refine x_get (pc := 91) (ci := 8) (T := TX8) (v := .ref a_t_s) C S 0 rfl rfl inlX8 0 (by decide) rfl qf_8_11 rfl dX8_plan_91 ?_
    refine lv_bipush (pc := 94) hx hb dX8_plan_94 bc_18 ?_
    refine lv_iconst (pc := 96) hx hb dX8_plan_96 ic_2 ?_
    refine lv_aload_n (pc := 97) hx hb dX8_plan_97 rfl (lv_at hl 0 rfl) ?_
    refine x_get (pc := 98) (ci := 8) (T := TX8) (v := .ref a_t_s) C S 0 rfl rfl inlX8 0 (by decide) rfl qf_8_11 rfl dX8_plan_98 ?_
    refine lv_bipush (pc := 101) hx hb dX8_plan_101 bc_6 ?_
    refine x_iald (pc := 103) C S 1 rfl (vp_in_iff.mpr (by decide)) dX8_plan_103 ?_
    refine lv_imul (pc := 104) hx hb dX8_plan_104 ?_
    refine lv_iadd (pc := 105) hx hb dX8_plan_105 ?_
    refine lv_iconst (pc := 106) hx hb dX8_plan_106 ic_1 ?_
    refine lv_iadd (pc := 107) hx hb dX8_plan_107 ?_
    refine lv_iload_n (pc := 108) hx hb dX8_plan_108 rfl (lv_at hl 2 rfl) ?_
    obtain ⟨hv3, hf⟩ := gI_e hf
    refine x_iast (pc := 109) (ws' := (w_X8_plan G a_t a_t_s a_t_image a_t_mind a_t_aside a_t_text a_t_read a_t_comes a_t_begins a_t_latest a_t_move a_t_sort a_t_items a_t_cell a_t_carried t_isKept t_work t_kind t_letters t_at t_fault t_back t_waits t_miles t_loads t_bestRound t_bestPlace t_bestAdds t_regret t_z (upd (upd t_s ((18 : Int32) + ((2 : Int32) * (t_s (6 : Int32).toNatClampNeg))).toNatClampNeg x1) (((18 : Int32) + ((2 : Int32) * ((upd t_s ((18 : Int32) + ((2 : Int32) * (t_s (6 : Int32).toNatClampNeg))).toNatClampNeg x1) (6 : Int32).toNatClampNeg))) + (1 : Int32)).toNatClampNeg x2))) C S 1 rfl hv3 rfl dX8_plan_109 (fun H locs S => ?_)
    refine lv_aload_n (pc := 110) hx hb dX8_plan_110 rfl (lv_at hl 0 rfl) ?_
    refine x_get (pc := 111) (ci := 8) (T := TX8) (v := .ref a_t_s) C S 0 rfl rfl inlX8 0 (by decide) rfl qf_8_11 rfl dX8_plan_111 ?_
    refine lv_bipush (pc := 114) hx hb dX8_plan_114 bc_6 ?_
    refine lv_dup2_11 (pc := 116) hx hb dX8_plan_116 rfl rfl ?_
    refine x_iald (pc := 117) C S 1 rfl (vp_in_iff.mpr (by decide)) dX8_plan_117 ?_
    refine lv_iconst (pc := 118) hx hb dX8_plan_118 ic_1 ?_
    refine lv_iadd (pc := 119) hx hb dX8_plan_119 ?_
    refine x_iast (pc := 120) (ws' := (w_X8_plan G a_t a_t_s a_t_image a_t_mind a_t_aside a_t_text a_t_read a_t_comes a_t_begins a_t_latest a_t_move a_t_sort a_t_items a_t_cell a_t_carried t_isKept t_work t_kind t_letters t_at t_fault t_back t_waits t_miles t_loads t_bestRound t_bestPlace t_bestAdds t_regret t_z (upd (upd (upd t_s ((18 : Int32) + ((2 : Int32) * (t_s (6 : Int32).toNatClampNeg))).toNatClampNeg x1) (((18 : Int32) + ((2 : Int32) * ((upd t_s ((18 : Int32) + ((2 : Int32) * (t_s (6 : Int32).toNatClampNeg))).toNatClampNeg x1) (6 : Int32).toNatClampNeg))) + (1 : Int32)).toNatClampNeg x2) (6 : Int32).toNatClampNeg (((upd (upd t_s ((18 : Int32) + ((2 : Int32) * (t_s (6 : Int32).toNatClampNeg))).toNatClampNeg x1) (((18 : Int32) + ((2 : Int32) * ((upd t_s ((18 : Int32) + ((2 : Int32) * (t_s (6 : Int32).toNatClampNeg))).toNatClampNeg x1) (6 : Int32).toNatClampNeg))) + (1 : Int32)).toNatClampNeg x2) (6 : Int32).toNatClampNeg) + (1 : Int32))))) C S 1 rfl (vp_in_iff.mpr (by decide)) rfl dX8_plan_120 (fun H locs S => ?_)
    refine lv_aload_n (pc := 121) hx hb dX8_plan_121 rfl (lv_at hl 0 rfl) ?_
    refine x_get (pc := 122) (ci := 8) (T := TX8) (v := .ref a_t_s) C S 0 rfl rfl inlX8 0 (by decide) rfl qf_8_11 rfl dX8_plan_122 ?_
    refine lv_bipush (pc := 125) hx hb dX8_plan_125 bc_6 ?_
    refine x_iald (pc := 127) C S 1 rfl (vp_in_iff.mpr (by decide)) dX8_plan_127 ?_
    cases hf
    exact x_iret (pc := 128) C S dX8_plan_128
  · have hf := ifp c1 hf
    refine lv_bipush (pc := 69) hx hb dX8_plan_69 bc_m4 ?_
    cases hf
    exact x_iret (pc := 71) C S dX8_plan_71
set_option maxRecDepth 100000 in
set_option maxHeartbeats 4000000 in
theorem k_X8_plan_39 (C : Cx p s m args meth c cX8_plan (some .int) 3 RX8 G A) (t_isKept : Int32) (t_work : Int32) (t_kind : Int32) (t_letters : Int32) (t_at : Int32) (t_fault : Int32) (t_back : Int32) (t_waits : Int32) (t_miles : Int32) (t_loads : Int32) (t_bestRound : Int32) (t_bestPlace : Int32) (t_bestAdds : Int32) (t_regret : Int32) (t_z : Int32) (t_s : Nat → Int32) (x1 : Int32) (x2 : Int32) {H : Heap} {locs : List Loc} {ls : Array Slot} (hf : b_X8_plan_39 x1 x2 t_s = some (r, z_t_s)) (S : St G A s.heap H locs (w_X8_plan G a_t a_t_s a_t_image a_t_mind a_t_aside a_t_text a_t_read a_t_comes a_t_begins a_t_latest a_t_move a_t_sort a_t_items a_t_cell a_t_carried t_isKept t_work t_kind t_letters t_at t_fault t_back t_waits t_miles t_loads t_bestRound t_bestPlace t_bestAdds t_regret t_z t_s)) (hl : lv_has ls 3 [(0, .ref a_t), (1, .int x1), (2, .int x2)]) : W p l e rm_X8_plan s m args below meth c H locs 0 0 (QI G below args s A r (w_X8_plan G a_t a_t_s a_t_image a_t_mind a_t_aside a_t_text a_t_read a_t_comes a_t_begins a_t_latest a_t_move a_t_sort a_t_items a_t_cell a_t_carried t_isKept t_work t_kind t_letters t_at t_fault t_back t_waits t_miles t_loads t_bestRound t_bestPlace t_bestAdds t_regret t_z z_t_s)) (F0 m 39 ls []) := by
  unfold b_X8_plan_39 at hf
  have hx := C.1
  have hb := C.2.1
  have hown := C.2.2.2.2.1
  have hts := C.2.2.2.2.2.1
  have hN := C.2.2.2.2.2.2.2.2.2.2
  refine lv_iload_n (pc := 39) hx hb dX8_plan_39 rfl (lv_at hl 1 rfl) ?_
  refine lv_iconst (pc := 40) hx hb dX8_plan_40 ic_3 ?_
  refine lv_icmp_ne (tgt := 57) (pc := 41) hx hb dX8_plan_41 (by decide) (fun c1 => ?_) (fun c1 => ?_)
  · have hf := ifn c1 hf
    exact k_X8_plan_57 C (t_isKept) (t_work) (t_kind) (t_letters) (t_at) (t_fault) (t_back) (t_waits) (t_miles) (t_loads) (t_bestRound) (t_bestPlace) (t_bestAdds) (t_regret) (t_z) (t_s) (x1) (x2) hf S (lv_sub hl [0, 1, 2] rfl)
  · have hf := ifp c1 hf
    refine lv_iload_n (pc := 44) hx hb dX8_plan_44 rfl (lv_at hl 2 rfl) ?_
    refine lv_iconst (pc := 45) hx hb dX8_plan_45 ic_0 ?_
    refine lv_bipush (pc := 46) hx hb dX8_plan_46 bc_99 ?_
    obtain ⟨r2, hq2, hf⟩ := bd_e hf
    refine x_sI (pc := 48) (As := [.int x2, .int (0 : Int32), .int (99 : Int32)]) (rest := []) (isC := []) (ws' := (w_X8_plan G a_t a_t_s a_t_image a_t_mind a_t_aside a_t_text a_t_read a_t_comes a_t_begins a_t_latest a_t_move a_t_sort a_t_items a_t_cell a_t_carried t_isKept t_work t_kind t_letters t_at t_fault t_back t_waits t_miles t_loads t_bestRound t_bestPlace t_bestAdds t_regret t_z t_s)) C S (c_X8_isIn l G x2 (0 : Int32) (99 : Int32) r2 hq2) (u_X8_plan_X8_isIn_55 hts) rfl (by decide +kernel) [none, none] (by decide +kernel) rfl rfl rfl hl.1 rfl (Nat.le_of_ble_eq_true rfl) dX8_plan_48 (fun H locs S => ?_)
    refine lv_if_ne (tgt := 57) (pc := 51) hx hb dX8_plan_51 (by decide) (fun c3 => ?_) (fun c3 => ?_)
    · have hf := ifn c3 hf
      exact k_X8_plan_57 C (t_isKept) (t_work) (t_kind) (t_letters) (t_at) (t_fault) (t_back) (t_waits) (t_miles) (t_loads) (t_bestRound) (t_bestPlace) (t_bestAdds) (t_regret) (t_z) (t_s) (x1) (x2) hf S (lv_sub hl [0, 1, 2] rfl)
    · have hf := ifp c3 hf
      refine lv_bipush (pc := 54) hx hb dX8_plan_54 bc_m2 ?_
      cases hf
      exact x_iret (pc := 56) C S dX8_plan_56
set_option maxRecDepth 100000 in
set_option maxHeartbeats 4000000 in
theorem c_X8_plan (l : Launch) (G : GE) (a_t a_t_s a_t_image a_t_mind a_t_aside a_t_text a_t_read a_t_comes a_t_begins a_t_latest a_t_move a_t_sort a_t_items a_t_cell a_t_carried : Nat) (t_isKept : Int32) (t_work : Int32) (t_kind : Int32) (t_letters : Int32) (t_at : Int32) (t_fault : Int32) (t_back : Int32) (t_waits : Int32) (t_miles : Int32) (t_loads : Int32) (t_bestRound : Int32) (t_bestPlace : Int32) (t_bestAdds : Int32) (t_regret : Int32) (t_z : Int32) (t_s : Nat → Int32) (x1 : Int32) (x2 : Int32) (r : Int32) (z_t_s : Nat → Int32) (hf : f_X8_plan t_s x1 x2 = some (r, z_t_s)) : CI l G yX8_plan kw_X8_plan rm_X8_plan [.ref a_t, .int x1, .int x2] (w_X8_plan G a_t a_t_s a_t_image a_t_mind a_t_aside a_t_text a_t_read a_t_comes a_t_begins a_t_latest a_t_move a_t_sort a_t_items a_t_cell a_t_carried t_isKept t_work t_kind t_letters t_at t_fault t_back t_waits t_miles t_loads t_bestRound t_bestPlace t_bestAdds t_regret t_z t_s) r (w_X8_plan G a_t a_t_s a_t_image a_t_mind a_t_aside a_t_text a_t_read a_t_comes a_t_begins a_t_latest a_t_move a_t_sort a_t_items a_t_cell a_t_carried t_isKept t_work t_kind t_letters t_at t_fault t_back t_waits t_miles t_loads t_bestRound t_bestPlace t_bestAdds t_regret t_z z_t_s) := by
  refine en_I (cc := cX8_plan) (maxL := 3) (ret := (some .int)) (by decide +kernel) (Nat.le_of_ble_eq_true rfl) ?_
  intro p e s m args below meth c A ls C S hl
  have hl : lv_has ls 3 [(0, .ref a_t), (1, .int x1), (2, .int x2)] := hl
  have C : Cx p s m args meth c cX8_plan (some .int) 3 RX8 G A := C
  unfold f_X8_plan at hf
  have hx := C.1
  have hb := C.2.1
  have hown := C.2.2.2.2.1
  have hts := C.2.2.2.2.2.1
  have hN := C.2.2.2.2.2.2.2.2.2.2
  refine lv_iload_n (pc := 0) hx hb dX8_plan_0 rfl (lv_at hl 1 rfl) ?_
  refine lv_iconst (pc := 1) hx hb dX8_plan_1 ic_m1 ?_
  refine lv_icmp_ne (tgt := 15) (pc := 2) hx hb dX8_plan_2 (by decide) (fun c1 => ?_) (fun c1 => ?_)
  · have hf := ifn c1 hf
    refine lv_iload_n (pc := 15) hx hb dX8_plan_15 rfl (lv_at hl 1 rfl) ?_
    refine lv_iconst (pc := 16) hx hb dX8_plan_16 ic_0 ?_
    refine lv_iconst (pc := 17) hx hb dX8_plan_17 ic_3 ?_
    obtain ⟨r2, hq2, hf⟩ := bd_e hf
    refine x_sI (pc := 18) (As := [.int x1, .int (0 : Int32), .int (3 : Int32)]) (rest := []) (isC := []) (ws' := (w_X8_plan G a_t a_t_s a_t_image a_t_mind a_t_aside a_t_text a_t_read a_t_comes a_t_begins a_t_latest a_t_move a_t_sort a_t_items a_t_cell a_t_carried t_isKept t_work t_kind t_letters t_at t_fault t_back t_waits t_miles t_loads t_bestRound t_bestPlace t_bestAdds t_regret t_z t_s)) C S (c_X8_isIn l G x1 (0 : Int32) (3 : Int32) r2 hq2) (u_X8_plan_X8_isIn_55 hts) rfl (by decide +kernel) [none, none] (by decide +kernel) rfl rfl rfl hl.1 rfl (Nat.le_of_ble_eq_true rfl) dX8_plan_18 (fun H locs S => ?_)
    refine lv_if_eq (tgt := 37) (pc := 21) hx hb dX8_plan_21 (by decide) (fun c3 => ?_) (fun c3 => ?_)
    · have hf := ifp c3 hf
      refine lv_iconst (pc := 37) hx hb dX8_plan_37 ic_m1 ?_
      cases hf
      exact x_iret (pc := 38) C S dX8_plan_38
    · have hf := ifn c3 hf
      refine lv_iload_n (pc := 24) hx hb dX8_plan_24 rfl (lv_at hl 1 rfl) ?_
      refine lv_iconst (pc := 25) hx hb dX8_plan_25 ic_2 ?_
      refine lv_icmp_ne (tgt := 39) (pc := 26) hx hb dX8_plan_26 (by decide) (fun c4 => ?_) (fun c4 => ?_)
      · have hf := ifn c4 hf
        exact k_X8_plan_39 C (t_isKept) (t_work) (t_kind) (t_letters) (t_at) (t_fault) (t_back) (t_waits) (t_miles) (t_loads) (t_bestRound) (t_bestPlace) (t_bestAdds) (t_regret) (t_z) (t_s) (x1) (x2) hf S (lv_sub hl [0, 1, 2] rfl)
      · have hf := ifp c4 hf
        refine lv_aload_n (pc := 29) hx hb dX8_plan_29 rfl (lv_at hl 0 rfl) ?_
        refine lv_iload_n (pc := 30) hx hb dX8_plan_30 rfl (lv_at hl 2 rfl) ?_
        obtain ⟨r5, hq5, hf⟩ := bd_e hf
        refine x_vI (pc := 31) (As := [.int x2]) (rest := []) (isC := [0, 1]) (ws' := (w_X8_plan G a_t a_t_s a_t_image a_t_mind a_t_aside a_t_text a_t_read a_t_comes a_t_begins a_t_latest a_t_move a_t_sort a_t_items a_t_cell a_t_carried t_isKept t_work t_kind t_letters t_at t_fault t_back t_waits t_miles t_loads t_bestRound t_bestPlace t_bestAdds t_regret t_z t_s)) C S (c_X8_isStop l G a_t a_t_s a_t_image a_t_mind a_t_aside a_t_text a_t_read a_t_comes a_t_begins a_t_latest a_t_move a_t_sort a_t_items a_t_cell a_t_carried t_isKept t_work t_kind t_letters t_at t_fault t_back t_waits t_miles t_loads t_bestRound t_bestPlace t_bestAdds t_regret t_z t_s x2 r5 hq5) (u_X8_plan_X8_isStop_151 hts) (ci := 8) rfl 0 rfl rfl (by decide +kernel) [some 0, some 1] (by decide +kernel) rfl rfl rfl hl.1 rfl (Nat.le_of_ble_eq_true rfl) dX8_plan_31 (fun H locs S => ?_)
        refine lv_if_ne (tgt := 39) (pc := 34) hx hb dX8_plan_34 (by decide) (fun c6 => ?_) (fun c6 => ?_)
        · have hf := ifn c6 hf
          exact k_X8_plan_39 C (t_isKept) (t_work) (t_kind) (t_letters) (t_at) (t_fault) (t_back) (t_waits) (t_miles) (t_loads) (t_bestRound) (t_bestPlace) (t_bestAdds) (t_regret) (t_z) (t_s) (x1) (x2) hf S (lv_sub hl [0, 1, 2] rfl)
        · have hf := ifp c6 hf
          refine lv_iconst (pc := 37) hx hb dX8_plan_37 ic_m1 ?_
          cases hf
          exact x_iret (pc := 38) C S dX8_plan_38
  · have hf := ifp c1 hf
    refine lv_aload_n (pc := 5) hx hb dX8_plan_5 rfl (lv_at hl 0 rfl) ?_
    refine x_get (pc := 6) (ci := 8) (T := TX8) (v := .ref a_t_s) C S 0 rfl rfl inlX8 0 (by decide) rfl qf_8_11 rfl dX8_plan_6 ?_
    refine lv_bipush (pc := 9) hx hb dX8_plan_9 bc_6 ?_
    refine lv_iconst (pc := 11) hx hb dX8_plan_11 ic_0 ?_
    refine x_iast (pc := 12) (ws' := (w_X8_plan G a_t a_t_s a_t_image a_t_mind a_t_aside a_t_text a_t_read a_t_comes a_t_begins a_t_latest a_t_move a_t_sort a_t_items a_t_cell a_t_carried t_isKept t_work t_kind t_letters t_at t_fault t_back t_waits t_miles t_loads t_bestRound t_bestPlace t_bestAdds t_regret t_z (upd t_s (6 : Int32).toNatClampNeg (0 : Int32)))) C S 1 rfl (vp_in_iff.mpr (by decide)) rfl dX8_plan_12 (fun H locs S => ?_)
    refine lv_iconst (pc := 13) hx hb dX8_plan_13 ic_0 ?_
    cases hf
    exact x_iret (pc := 14) C S dX8_plan_14
end

abbrev rm_X8_price : Room := { frames := 7, cells := 0, slots := 0, locals := 164 }
abbrev kw_X8_price : Cond := .code yX8_price cX8_price 3 (some .int)
abbrev w_X8_price (G : GE) (a_t a_t_s a_t_image a_t_mind a_t_aside a_t_text a_t_read a_t_comes a_t_begins a_t_latest a_t_move a_t_sort a_t_items a_t_cell a_t_carried : Nat) (t_isKept : Int32) (t_work : Int32) (t_kind : Int32) (t_letters : Int32) (t_at : Int32) (t_fault : Int32) (t_back : Int32) (t_waits : Int32) (t_miles : Int32) (t_loads : Int32) (t_bestRound : Int32) (t_bestPlace : Int32) (t_bestAdds : Int32) (t_regret : Int32) (t_z : Int32) (t_s : Nat → Int32) (t_comes : Nat → Int32) (t_begins : Nat → Int32) : va_W := [(a_t, ob 8 [.ref a_t_s, .ref a_t_image, .ref a_t_mind, .ref a_t_aside, .int t_isKept, .int t_work, .int t_kind, .ref a_t_text, .ref a_t_read, .int t_letters, .int t_at, .int t_fault, .ref a_t_comes, .ref a_t_begins, .ref a_t_latest, .int t_back, .int t_waits, .int t_miles, .int t_loads, .int t_bestRound, .int t_bestPlace, .int t_bestAdds, .int t_regret, .ref a_t_move, .ref a_t_sort, .ref a_t_items, .ref a_t_cell, .ref a_t_carried, .int t_z]), (a_t_s, aI G 258 t_s), (a_t_comes, aI G 16 t_comes), (a_t_begins, aI G 16 t_begins)]
theorem u_X8_price_X8_isIn_55 {s : State} {args : Array Value} (hts : ∀ w ∈ WU, w.before args s = true) : CallB rm_X8_price s args RX8 55 yX8_isIn cX8_isIn 3 (some .boolean) (kw_X8_isIn :: WU) rm_X8_isIn 0 0 3 ∧ (Cond.static yX8_isIn).before args s = true := va_cwS 3 hts (gS qm_8_55 qs_X8_isIn qn_8 qc_X8_isIn) rfl rfl rfl (by decide +kernel) ⟨Nat.le_of_ble_eq_true rfl, Nat.le_of_ble_eq_true rfl⟩
theorem u_X8_price_X8_becomes_154 {s : State} {args : Array Value} (hts : ∀ w ∈ WU, w.before args s = true) : CallW rm_X8_price s args RX8 RX8 154 yX8_becomes cX8_becomes 4 (some .int) (kw_X8_becomes :: WU) rm_X8_becomes 0 0 2 := cwV 2 hts (gV qm_8_154 qi_X8_becomes ql_X8_becomes qn_8 qc_X8_becomes) rfl rfl rfl (by decide +kernel) ⟨Nat.le_of_ble_eq_true rfl, Nat.le_of_ble_eq_true rfl⟩
section
variable {p : Program} {l : Launch} {e : Env} {s : State} {m : MethodId} {args : Array Value} {below : List Frame} {meth : Method} {c : Code} {A : Nat → Prop} {G : GE} {a_t a_t_s a_t_image a_t_mind a_t_aside a_t_text a_t_read a_t_comes a_t_begins a_t_latest a_t_move a_t_sort a_t_items a_t_cell a_t_carried : Nat} {r : Int32} {z_t_s : Nat → Int32} {z_t_comes : Nat → Int32} {z_t_begins : Nat → Int32} {z_t_back : Int32} {z_t_waits : Int32} {z_t_loads : Int32}
set_option maxRecDepth 100000 in
set_option maxHeartbeats 4000000 in
theorem k_X8_price_23 (C : Cx p s m args meth c cX8_price (some .int) 3 RX8 G A) (t_isKept : Int32) (t_work : Int32) (t_kind : Int32) (t_letters : Int32) (t_at : Int32) (t_fault : Int32) (t_back : Int32) (t_waits : Int32) (t_miles : Int32) (t_loads : Int32) (t_bestRound : Int32) (t_bestPlace : Int32) (t_bestAdds : Int32) (t_regret : Int32) (t_z : Int32) (t_s : Nat → Int32) (t_comes : Nat → Int32) (t_begins : Nat → Int32) (x1 : Int32) (x2 : Int32) (y0 : Int32) (y1 : Int32) (y2 : Int32) {H : Heap} {locs : List Loc} {ls : Array Slot} (hf : b_X8_price_23 x1 x2 y0 y1 y2 t_s t_comes t_begins t_back t_waits t_loads = some (r, z_t_s, z_t_comes, z_t_begins, z_t_back, z_t_waits, z_t_loads)) (S : St G A s.heap H locs (w_X8_price G a_t a_t_s a_t_image a_t_mind a_t_aside a_t_text a_t_read a_t_comes a_t_begins a_t_latest a_t_move a_t_sort a_t_items a_t_cell a_t_carried t_isKept t_work t_kind t_letters t_at t_fault t_back t_waits t_miles t_loads t_bestRound t_bestPlace t_bestAdds t_regret t_z t_s t_comes t_begins)) (hl : lv_has ls 3 [(0, .ref a_t), (1, .int x1), (2, .int x2)]) : W p l e rm_X8_price s m args below meth c H locs 0 0 (QI G below args s A r (w_X8_price G a_t a_t_s a_t_image a_t_mind a_t_aside a_t_text a_t_read a_t_comes a_t_begins a_t_latest a_t_move a_t_sort a_t_items a_t_cell a_t_carried t_isKept t_work t_kind t_letters t_at t_fault z_t_back z_t_waits t_miles z_t_loads t_bestRound t_bestPlace t_bestAdds t_regret t_z z_t_s z_t_comes z_t_begins)) (F0 m 23 ls [.int y2, .int y1, .int y0]) := by
  unfold b_X8_price_23 at hf
  have hx := C.1
  have hb := C.2.1
  have hown := C.2.2.2.2.1
  have hts := C.2.2.2.2.2.1
  have hN := C.2.2.2.2.2.2.2.2.2.2
  obtain ⟨r1, hq1, hf⟩ := bd_e hf
  refine x_sI (pc := 23) (As := [.int y0, .int y1, .int y2]) (rest := []) (isC := []) (ws' := (w_X8_price G a_t a_t_s a_t_image a_t_mind a_t_aside a_t_text a_t_read a_t_comes a_t_begins a_t_latest a_t_move a_t_sort a_t_items a_t_cell a_t_carried t_isKept t_work t_kind t_letters t_at t_fault t_back t_waits t_miles t_loads t_bestRound t_bestPlace t_bestAdds t_regret t_z t_s t_comes t_begins)) C S (c_X8_isIn l G y0 y1 y2 r1 hq1) (u_X8_price_X8_isIn_55 hts) rfl (by decide +kernel) [none, none, none, none] (by decide +kernel) rfl rfl rfl hl.1 rfl (Nat.le_of_ble_eq_true rfl) dX8_price_23 (fun H locs S => ?_)
  refine lv_if_ne (tgt := 32) (pc := 26) hx hb dX8_price_26 (by decide) (fun c2 => ?_) (fun c2 => ?_)
  · have hf := ifn c2 hf
    refine lv_aload_n (pc := 32) hx hb dX8_price_32 rfl (lv_at hl 0 rfl) ?_
    refine lv_iconst (pc := 33) hx hb dX8_price_33 ic_2 ?_
    refine lv_iload_n (pc := 34) hx hb dX8_price_34 rfl (lv_at hl 1 rfl) ?_
    refine lv_iadd (pc := 35) hx hb dX8_price_35 ?_
    refine lv_iload_n (pc := 36) hx hb dX8_price_36 rfl (lv_at hl 2 rfl) ?_
    obtain ⟨⟨r3, o3_t_s, o3_t_comes, o3_t_begins, o3_t_back, o3_t_waits, o3_t_loads⟩, hq3, hf⟩ := bd_e hf
    refine x_vI (pc := 37) (As := [.int ((2 : Int32) + x1), .int x2]) (rest := []) (isC := [0, 1, 2, 3]) (ws' := (w_X8_price G a_t a_t_s a_t_image a_t_mind a_t_aside a_t_text a_t_read a_t_comes a_t_begins a_t_latest a_t_move a_t_sort a_t_items a_t_cell a_t_carried t_isKept t_work t_kind t_letters t_at t_fault o3_t_back o3_t_waits t_miles o3_t_loads t_bestRound t_bestPlace t_bestAdds t_regret t_z o3_t_s o3_t_comes o3_t_begins)) C S (c_X8_becomes l G a_t a_t_s a_t_image a_t_mind a_t_aside a_t_text a_t_read a_t_comes a_t_begins a_t_latest a_t_move a_t_sort a_t_items a_t_cell a_t_carried t_isKept t_work t_kind t_letters t_at t_fault t_back t_waits t_miles t_loads t_bestRound t_bestPlace t_bestAdds t_regret t_z t_s t_comes t_begins ((2 : Int32) + x1) x2 r3 o3_t_s o3_t_comes o3_t_begins o3_t_back o3_t_waits o3_t_loads hq3) (u_X8_price_X8_becomes_154 hts) (ci := 8) rfl 0 rfl rfl (by decide +kernel) [some 0, some 1, some 2, some 3] (by decide +kernel) rfl rfl rfl hl.1 rfl (Nat.le_of_ble_eq_true rfl) dX8_price_37 (fun H locs S => ?_)
    cases hf
    exact x_iret (pc := 40) C S dX8_price_40
  · have hf := ifp c2 hf
    refine lv_bipush (pc := 29) hx hb dX8_price_29 bc_m2 ?_
    cases hf
    exact x_iret (pc := 31) C S dX8_price_31
set_option maxRecDepth 100000 in
set_option maxHeartbeats 4000000 in
theorem c_X8_price (l : Launch) (G : GE) (a_t a_t_s a_t_image a_t_mind a_t_aside a_t_text a_t_read a_t_comes a_t_begins a_t_latest a_t_move a_t_sort a_t_items a_t_cell a_t_carried : Nat) (t_isKept : Int32) (t_work : Int32) (t_kind : Int32) (t_letters : Int32) (t_at : Int32) (t_fault : Int32) (t_back : Int32) (t_waits : Int32) (t_miles : Int32) (t_loads : Int32) (t_bestRound : Int32) (t_bestPlace : Int32) (t_bestAdds : Int32) (t_regret : Int32) (t_z : Int32) (t_s : Nat → Int32) (t_comes : Nat → Int32) (t_begins : Nat → Int32) (x1 : Int32) (x2 : Int32) (r : Int32) (z_t_s : Nat → Int32) (z_t_comes : Nat → Int32) (z_t_begins : Nat → Int32) (z_t_back : Int32) (z_t_waits : Int32) (z_t_loads : Int32) (hf : f_X8_price t_s t_comes t_begins t_back t_waits t_loads x1 x2 = some (r, z_t_s, z_t_comes, z_t_begins, z_t_back, z_t_waits, z_t_loads)) : CI l G yX8_price kw_X8_price rm_X8_price [.ref a_t, .int x1, .int x2] (w_X8_price G a_t a_t_s a_t_image a_t_mind a_t_aside a_t_text a_t_read a_t_comes a_t_begins a_t_latest a_t_move a_t_sort a_t_items a_t_cell a_t_carried t_isKept t_work t_kind t_letters t_at t_fault t_back t_waits t_miles t_loads t_bestRound t_bestPlace t_bestAdds t_regret t_z t_s t_comes t_begins) r (w_X8_price G a_t a_t_s a_t_image a_t_mind a_t_aside a_t_text a_t_read a_t_comes a_t_begins a_t_latest a_t_move a_t_sort a_t_items a_t_cell a_t_carried t_isKept t_work t_kind t_letters t_at t_fault z_t_back z_t_waits t_miles z_t_loads t_bestRound t_bestPlace t_bestAdds t_regret t_z z_t_s z_t_comes z_t_begins) := by
  refine en_I (cc := cX8_price) (maxL := 3) (ret := (some .int)) (by decide +kernel) (Nat.le_of_ble_eq_true rfl) ?_
  intro p e s m args below meth c A ls C S hl
  have hl : lv_has ls 3 [(0, .ref a_t), (1, .int x1), (2, .int x2)] := hl
  have C : Cx p s m args meth c cX8_price (some .int) 3 RX8 G A := C
  unfold f_X8_price at hf
  have hx := C.1
  have hb := C.2.1
  have hown := C.2.2.2.2.1
  have hts := C.2.2.2.2.2.1
  have hN := C.2.2.2.2.2.2.2.2.2.2
  refine lv_iload_n (pc := 0) hx hb dX8_price_0 rfl (lv_at hl 1 rfl) ?_
  refine lv_iconst (pc := 1) hx hb dX8_price_1 ic_0 ?_
  refine lv_iconst (pc := 2) hx hb dX8_price_2 ic_1 ?_
  obtain ⟨r1, hq1, hf⟩ := bd_e hf
  refine x_sI (pc := 3) (As := [.int x1, .int (0 : Int32), .int (1 : Int32)]) (rest := []) (isC := []) (ws' := (w_X8_price G a_t a_t_s a_t_image a_t_mind a_t_aside a_t_text a_t_read a_t_comes a_t_begins a_t_latest a_t_move a_t_sort a_t_items a_t_cell a_t_carried t_isKept t_work t_kind t_letters t_at t_fault t_back t_waits t_miles t_loads t_bestRound t_bestPlace t_bestAdds t_regret t_z t_s t_comes t_begins)) C S (c_X8_isIn l G x1 (0 : Int32) (1 : Int32) r1 hq1) (u_X8_price_X8_isIn_55 hts) rfl (by decide +kernel) [none, none, none, none] (by decide +kernel) rfl rfl rfl hl.1 rfl (Nat.le_of_ble_eq_true rfl) dX8_price_3 (fun H locs S => ?_)
  refine lv_if_ne (tgt := 11) (pc := 6) hx hb dX8_price_6 (by decide) (fun c2 => ?_) (fun c2 => ?_)
  · have hf := ifn c2 hf
    refine lv_iload_n (pc := 11) hx hb dX8_price_11 rfl (lv_at hl 2 rfl) ?_
    refine lv_iconst (pc := 12) hx hb dX8_price_12 ic_0 ?_
    refine lv_iload_n (pc := 13) hx hb dX8_price_13 rfl (lv_at hl 1 rfl) ?_
    refine lv_if_ne (tgt := 21) (pc := 14) hx hb dX8_price_14 (by decide) (fun c3 => ?_) (fun c3 => ?_)
    · have hf := ifn c3 hf
      refine lv_bipush (pc := 21) hx hb dX8_price_21 bc_99 ?_
      exact k_X8_price_23 C (t_isKept) (t_work) (t_kind) (t_letters) (t_at) (t_fault) (t_back) (t_waits) (t_miles) (t_loads) (t_bestRound) (t_bestPlace) (t_bestAdds) (t_regret) (t_z) (t_s) (t_comes) (t_begins) (x1) (x2) (x2) ((0 : Int32)) ((99 : Int32)) hf S (lv_sub hl [0, 1, 2] rfl)
    · have hf := ifp c3 hf
      refine lv_iconst (pc := 17) hx hb dX8_price_17 ic_2 ?_
      refine lv_goto (tgt := 23) (pc := 18) hx hb dX8_price_18 (by decide) ?_
      exact k_X8_price_23 C (t_isKept) (t_work) (t_kind) (t_letters) (t_at) (t_fault) (t_back) (t_waits) (t_miles) (t_loads) (t_bestRound) (t_bestPlace) (t_bestAdds) (t_regret) (t_z) (t_s) (t_comes) (t_begins) (x1) (x2) (x2) ((0 : Int32)) ((2 : Int32)) hf S (lv_sub hl [0, 1, 2] rfl)
  · have hf := ifp c2 hf
    refine lv_iconst (pc := 9) hx hb dX8_price_9 ic_m1 ?_
    cases hf
    exact x_iret (pc := 10) C S dX8_price_10
end

abbrev rm_X8_put : Room := { frames := 6, cells := 0, slots := 0, locals := 145 }
abbrev kw_X8_put : Cond := .code yX8_put cX8_put 5 (some .int)
abbrev w_X8_put (G : GE) (a_t a_t_s a_t_image a_t_mind a_t_aside a_t_text a_t_read a_t_comes a_t_begins a_t_latest a_t_move a_t_sort a_t_items a_t_cell a_t_carried : Nat) (t_isKept : Int32) (t_work : Int32) (t_kind : Int32) (t_letters : Int32) (t_at : Int32) (t_fault : Int32) (t_back : Int32) (t_waits : Int32) (t_miles : Int32) (t_loads : Int32) (t_bestRound : Int32) (t_bestPlace : Int32) (t_bestAdds : Int32) (t_regret : Int32) (t_z : Int32) (t_s : Nat → Int32) (t_comes : Nat → Int32) (t_begins : Nat → Int32) : va_W := [(a_t, ob 8 [.ref a_t_s, .ref a_t_image, .ref a_t_mind, .ref a_t_aside, .int t_isKept, .int t_work, .int t_kind, .ref a_t_text, .ref a_t_read, .int t_letters, .int t_at, .int t_fault, .ref a_t_comes, .ref a_t_begins, .ref a_t_latest, .int t_back, .int t_waits, .int t_miles, .int t_loads, .int t_bestRound, .int t_bestPlace, .int t_bestAdds, .int t_regret, .ref a_t_move, .ref a_t_sort, .ref a_t_items, .ref a_t_cell, .ref a_t_carried, .int t_z]), (a_t_s, aI G 258 t_s), (a_t_comes, aI G 16 t_comes), (a_t_begins, aI G 16 t_begins)]
theorem u_X8_put_X8_isStop_151 {s : State} {args : Array Value} (hts : ∀ w ∈ WU, w.before args s = true) : CallW rm_X8_put s args RX8 RX8 151 yX8_isStop cX8_isStop 2 (some .boolean) (kw_X8_isStop :: WU) rm_X8_isStop 0 0 1 := cwV 1 hts (gV qm_8_151 qi_X8_isStop ql_X8_isStop qn_8 qc_X8_isStop) rfl rfl rfl (by decide +kernel) ⟨Nat.le_of_ble_eq_true rfl, Nat.le_of_ble_eq_true rfl⟩
theorem u_X8_put_X8_isRound_162 {s : State} {args : Array Value} (hts : ∀ w ∈ WU, w.before args s = true) : CallB rm_X8_put s args RX8 162 yX8_isRound cX8_isRound 1 (some .boolean) (kw_X8_isRound :: WU) rm_X8_isRound 0 0 1 ∧ (Cond.static yX8_isRound).before args s = true := va_cwS 1 hts (gS qm_8_162 qs_X8_isRound qn_8 qc_X8_isRound) rfl rfl rfl (by decide +kernel) ⟨Nat.le_of_ble_eq_true rfl, Nat.le_of_ble_eq_true rfl⟩
theorem u_X8_put_X8_roundOf_157 {s : State} {args : Array Value} (hts : ∀ w ∈ WU, w.before args s = true) : CallW rm_X8_put s args RX8 RX8 157 yX8_roundOf cX8_roundOf 3 (some .int) (kw_X8_roundOf :: WU) rm_X8_roundOf 0 0 1 := cwV 1 hts (gV qm_8_157 qi_X8_roundOf ql_X8_roundOf qn_8 qc_X8_roundOf) rfl rfl rfl (by decide +kernel) ⟨Nat.le_of_ble_eq_true rfl, Nat.le_of_ble_eq_true rfl⟩
theorem u_X8_put_X8_roundAt_59 {s : State} {args : Array Value} (hts : ∀ w ∈ WU, w.before args s = true) : CallW rm_X8_put s args RX8 RX8 59 yX8_roundAt cX8_roundAt 3 (some .int) (kw_X8_roundAt :: WU) rm_X8_roundAt 0 0 2 := cwV 2 hts (gV qm_8_59 qi_X8_roundAt ql_X8_roundAt qn_8 qc_X8_roundAt) rfl rfl rfl (by decide +kernel) ⟨Nat.le_of_ble_eq_true rfl, Nat.le_of_ble_eq_true rfl⟩
theorem u_X8_put_X8_isIn_55 {s : State} {args : Array Value} (hts : ∀ w ∈ WU, w.before args s = true) : CallB rm_X8_put s args RX8 55 yX8_isIn cX8_isIn 3 (some .boolean) (kw_X8_isIn :: WU) rm_X8_isIn 0 0 3 ∧ (Cond.static yX8_isIn).before args s = true := va_cwS 3 hts (gS qm_8_55 qs_X8_isIn qn_8 qc_X8_isIn) rfl rfl rfl (by decide +kernel) ⟨Nat.le_of_ble_eq_true rfl, Nat.le_of_ble_eq_true rfl⟩
theorem u_X8_put_X8_added_174 {s : State} {args : Array Value} (hts : ∀ w ∈ WU, w.before args s = true) : CallW rm_X8_put s args RX8 RX8 174 yX8_added cX8_added 6 (some .int) (kw_X8_added :: WU) rm_X8_added 0 0 3 := cwV 3 hts (gV qm_8_174 qi_X8_added ql_X8_added qn_8 qc_X8_added) rfl rfl rfl (by decide +kernel) ⟨Nat.le_of_ble_eq_true rfl, Nat.le_of_ble_eq_true rfl⟩
theorem u_X8_put_X8_inserts_165 {s : State} {args : Array Value} (hts : ∀ w ∈ WU, w.before args s = true) : CallW rm_X8_put s args RX8 RX8 165 yX8_inserts cX8_inserts 6 none (kw_X8_inserts :: WU) rm_X8_inserts 0 0 3 := cwV 3 hts (gV qm_8_165 qi_X8_inserts ql_X8_inserts qn_8 qc_X8_inserts) rfl rfl rfl (by decide +kernel) ⟨Nat.le_of_ble_eq_true rfl, Nat.le_of_ble_eq_true rfl⟩
section
variable {p : Program} {l : Launch} {e : Env} {s : State} {m : MethodId} {args : Array Value} {below : List Frame} {meth : Method} {c : Code} {A : Nat → Prop} {G : GE} {a_t a_t_s a_t_image a_t_mind a_t_aside a_t_text a_t_read a_t_comes a_t_begins a_t_latest a_t_move a_t_sort a_t_items a_t_cell a_t_carried : Nat} {r : Int32} {z_t_s : Nat → Int32} {z_t_comes : Nat → Int32} {z_t_begins : Nat → Int32} {z_t_back : Int32} {z_t_waits : Int32} {z_t_loads : Int32}
set_option maxRecDepth 100000 in
set_option maxHeartbeats 4000000 in
theorem c_X8_put (l : Launch) (G : GE) (a_t a_t_s a_t_image a_t_mind a_t_aside a_t_text a_t_read a_t_comes a_t_begins a_t_latest a_t_move a_t_sort a_t_items a_t_cell a_t_carried : Nat) (t_isKept : Int32) (t_work : Int32) (t_kind : Int32) (t_letters : Int32) (t_at : Int32) (t_fault : Int32) (t_back : Int32) (t_waits : Int32) (t_miles : Int32) (t_loads : Int32) (t_bestRound : Int32) (t_bestPlace : Int32) (t_bestAdds : Int32) (t_regret : Int32) (t_z : Int32) (t_s : Nat → Int32) (t_comes : Nat → Int32) (t_begins : Nat → Int32) (x1 : Int32) (x2 : Int32) (x3 : Int32) (r : Int32) (z_t_s : Nat → Int32) (z_t_comes : Nat → Int32) (z_t_begins : Nat → Int32) (z_t_back : Int32) (z_t_waits : Int32) (z_t_loads : Int32) (hf : f_X8_put t_s t_comes t_begins t_back t_waits t_loads x1 x2 x3 = some (r, z_t_s, z_t_comes, z_t_begins, z_t_back, z_t_waits, z_t_loads)) : CI l G yX8_put kw_X8_put rm_X8_put [.ref a_t, .int x1, .int x2, .int x3] (w_X8_put G a_t a_t_s a_t_image a_t_mind a_t_aside a_t_text a_t_read a_t_comes a_t_begins a_t_latest a_t_move a_t_sort a_t_items a_t_cell a_t_carried t_isKept t_work t_kind t_letters t_at t_fault t_back t_waits t_miles t_loads t_bestRound t_bestPlace t_bestAdds t_regret t_z t_s t_comes t_begins) r (w_X8_put G a_t a_t_s a_t_image a_t_mind a_t_aside a_t_text a_t_read a_t_comes a_t_begins a_t_latest a_t_move a_t_sort a_t_items a_t_cell a_t_carried t_isKept t_work t_kind t_letters t_at t_fault z_t_back z_t_waits t_miles z_t_loads t_bestRound t_bestPlace t_bestAdds t_regret t_z z_t_s z_t_comes z_t_begins) := by
  refine en_I (cc := cX8_put) (maxL := 5) (ret := (some .int)) (by decide +kernel) (Nat.le_of_ble_eq_true rfl) ?_
  intro p e s m args below meth c A ls C S hl
  have hl : lv_has ls 5 [(0, .ref a_t), (1, .int x1), (2, .int x2), (3, .int x3)] := hl
  have C : Cx p s m args meth c cX8_put (some .int) 5 RX8 G A := C
  unfold f_X8_put at hf
  have hx := C.1
  have hb := C.2.1
  have hown := C.2.2.2.2.1
  have hts := C.2.2.2.2.2.1
  have hN := C.2.2.2.2.2.2.2.2.2.2
  refine lv_aload_n (pc := 0) hx hb dX8_put_0 rfl (lv_at hl 0 rfl) ?_
  refine lv_iload_n (pc := 1) hx hb dX8_put_1 rfl (lv_at hl 1 rfl) ?_
  obtain ⟨r1, hq1, hf⟩ := bd_e hf
  refine x_vI (pc := 2) (As := [.int x1]) (rest := []) (isC := [0, 1]) (ws' := (w_X8_put G a_t a_t_s a_t_image a_t_mind a_t_aside a_t_text a_t_read a_t_comes a_t_begins a_t_latest a_t_move a_t_sort a_t_items a_t_cell a_t_carried t_isKept t_work t_kind t_letters t_at t_fault t_back t_waits t_miles t_loads t_bestRound t_bestPlace t_bestAdds t_regret t_z t_s t_comes t_begins)) C S (c_X8_isStop l G a_t a_t_s a_t_image a_t_mind a_t_aside a_t_text a_t_read a_t_comes a_t_begins a_t_latest a_t_move a_t_sort a_t_items a_t_cell a_t_carried t_isKept t_work t_kind t_letters t_at t_fault t_back t_waits t_miles t_loads t_bestRound t_bestPlace t_bestAdds t_regret t_z t_s x1 r1 hq1) (u_X8_put_X8_isStop_151 hts) (ci := 8) rfl 0 rfl rfl (by decide +kernel) [some 0, some 1, none, none] (by decide +kernel) rfl rfl rfl hl.1 rfl (Nat.le_of_ble_eq_true rfl) dX8_put_2 (fun H locs S => ?_)
  refine lv_if_eq (tgt := 15) (pc := 5) hx hb dX8_put_5 (by decide) (fun c2 => ?_) (fun c2 => ?_)
  · have hf := ifp c2 hf
    refine lv_iconst (pc := 15) hx hb dX8_put_15 ic_m1 ?_
    cases hf
    exact x_iret (pc := 16) C S dX8_put_16
  · have hf := ifn c2 hf
    refine lv_iload_n (pc := 8) hx hb dX8_put_8 rfl (lv_at hl 2 rfl) ?_
    obtain ⟨r3, hq3, hf⟩ := bd_e hf
    refine x_sI (pc := 9) (As := [.int x2]) (rest := []) (isC := []) (ws' := (w_X8_put G a_t a_t_s a_t_image a_t_mind a_t_aside a_t_text a_t_read a_t_comes a_t_begins a_t_latest a_t_move a_t_sort a_t_items a_t_cell a_t_carried t_isKept t_work t_kind t_letters t_at t_fault t_back t_waits t_miles t_loads t_bestRound t_bestPlace t_bestAdds t_regret t_z t_s t_comes t_begins)) C S (c_X8_isRound l G x2 r3 hq3) (u_X8_put_X8_isRound_162 hts) rfl (by decide +kernel) [none, none, none, none] (by decide +kernel) rfl rfl rfl hl.1 rfl (Nat.le_of_ble_eq_true rfl) dX8_put_9 (fun H locs S => ?_)
    refine lv_if_ne (tgt := 17) (pc := 12) hx hb dX8_put_12 (by decide) (fun c4 => ?_) (fun c4 => ?_)
    · have hf := ifn c4 hf
      refine lv_aload_n (pc := 17) hx hb dX8_put_17 rfl (lv_at hl 0 rfl) ?_
      refine lv_iload_n (pc := 18) hx hb dX8_put_18 rfl (lv_at hl 1 rfl) ?_
      obtain ⟨r5, hq5, hf⟩ := bd_e hf
      refine x_vI (pc := 19) (As := [.int x1]) (rest := []) (isC := [0, 1]) (ws' := (w_X8_put G a_t a_t_s a_t_image a_t_mind a_t_aside a_t_text a_t_read a_t_comes a_t_begins a_t_latest a_t_move a_t_sort a_t_items a_t_cell a_t_carried t_isKept t_work t_kind t_letters t_at t_fault t_back t_waits t_miles t_loads t_bestRound t_bestPlace t_bestAdds t_regret t_z t_s t_comes t_begins)) C S (c_X8_roundOf l G a_t a_t_s a_t_image a_t_mind a_t_aside a_t_text a_t_read a_t_comes a_t_begins a_t_latest a_t_move a_t_sort a_t_items a_t_cell a_t_carried t_isKept t_work t_kind t_letters t_at t_fault t_back t_waits t_miles t_loads t_bestRound t_bestPlace t_bestAdds t_regret t_z t_s x1 r5 hq5) (u_X8_put_X8_roundOf_157 hts) (ci := 8) rfl 0 rfl rfl (by decide +kernel) [some 0, some 1, none, none] (by decide +kernel) rfl rfl rfl hl.1 rfl (Nat.le_of_ble_eq_true rfl) dX8_put_19 (fun H locs S => ?_)
      refine lv_if_lt (tgt := 28) (pc := 22) hx hb dX8_put_22 (by decide) (fun c6 => ?_) (fun c6 => ?_)
      · have hf := ifp c6 hf
        refine lv_iload_n (pc := 28) hx hb dX8_put_28 rfl (lv_at hl 3 rfl) ?_
        refine lv_iconst (pc := 29) hx hb dX8_put_29 ic_0 ?_
        refine lv_aload_n (pc := 30) hx hb dX8_put_30 rfl (lv_at hl 0 rfl) ?_
        refine lv_iload_n (pc := 31) hx hb dX8_put_31 rfl (lv_at hl 2 rfl) ?_
        refine lv_iconst (pc := 32) hx hb dX8_put_32 ic_3 ?_
        obtain ⟨r7, hq7, hf⟩ := bd_e hf
        refine x_vI (pc := 33) (As := [.int x2, .int (3 : Int32)]) (rest := [.int (0 : Int32), .int x3]) (isC := [0, 1]) (ws' := (w_X8_put G a_t a_t_s a_t_image a_t_mind a_t_aside a_t_text a_t_read a_t_comes a_t_begins a_t_latest a_t_move a_t_sort a_t_items a_t_cell a_t_carried t_isKept t_work t_kind t_letters t_at t_fault t_back t_waits t_miles t_loads t_bestRound t_bestPlace t_bestAdds t_regret t_z t_s t_comes t_begins)) C S (c_X8_roundAt l G a_t a_t_s a_t_image a_t_mind a_t_aside a_t_text a_t_read a_t_comes a_t_begins a_t_latest a_t_move a_t_sort a_t_items a_t_cell a_t_carried t_isKept t_work t_kind t_letters t_at t_fault t_back t_waits t_miles t_loads t_bestRound t_bestPlace t_bestAdds t_regret t_z t_s x2 (3 : Int32) r7 hq7) (u_X8_put_X8_roundAt_59 hts) (ci := 8) rfl 0 rfl rfl (by decide +kernel) [some 0, some 1, none, none] (by decide +kernel) rfl rfl rfl hl.1 rfl (Nat.le_of_ble_eq_true rfl) dX8_put_33 (fun H locs S => ?_)
        obtain ⟨r8, hq8, hf⟩ := bd_e hf
        refine x_sI (pc := 36) (As := [.int x3, .int (0 : Int32), .int r7]) (rest := []) (isC := []) (ws' := (w_X8_put G a_t a_t_s a_t_image a_t_mind a_t_aside a_t_text a_t_read a_t_comes a_t_begins a_t_latest a_t_move a_t_sort a_t_items a_t_cell a_t_carried t_isKept t_work t_kind t_letters t_at t_fault t_back t_waits t_miles t_loads t_bestRound t_bestPlace t_bestAdds t_regret t_z t_s t_comes t_begins)) C S (c_X8_isIn l G x3 (0 : Int32) r7 r8 hq8) (u_X8_put_X8_isIn_55 hts) rfl (by decide +kernel) [none, none, none, none] (by decide +kernel) rfl rfl rfl hl.1 rfl (Nat.le_of_ble_eq_true rfl) dX8_put_36 (fun H locs S => ?_)
        refine lv_if_ne (tgt := 45) (pc := 39) hx hb dX8_put_39 (by decide) (fun c9 => ?_) (fun c9 => ?_)
        · have hf := ifn c9 hf
          refine lv_aload_n (pc := 45) hx hb dX8_put_45 rfl (lv_at hl 0 rfl) ?_
          refine lv_iload_n (pc := 46) hx hb dX8_put_46 rfl (lv_at hl 1 rfl) ?_
          refine lv_iload_n (pc := 47) hx hb dX8_put_47 rfl (lv_at hl 2 rfl) ?_
          refine lv_iload_n (pc := 48) hx hb dX8_put_48 rfl (lv_at hl 3 rfl) ?_
          obtain ⟨⟨r10, o10_t_s, o10_t_comes, o10_t_begins, o10_t_back, o10_t_waits, o10_t_loads⟩, hq10, hf⟩ := bd_e hf
          refine x_vI (pc := 49) (As := [.int x1, .int x2, .int x3]) (rest := []) (isC := [0, 1, 2, 3]) (ws' := (w_X8_put G a_t a_t_s a_t_image a_t_mind a_t_aside a_t_text a_t_read a_t_comes a_t_begins a_t_latest a_t_move a_t_sort a_t_items a_t_cell a_t_carried t_isKept t_work t_kind t_letters t_at t_fault o10_t_back o10_t_waits t_miles o10_t_loads t_bestRound t_bestPlace t_bestAdds t_regret t_z o10_t_s o10_t_comes o10_t_begins)) C S (c_X8_added l G a_t a_t_s a_t_image a_t_mind a_t_aside a_t_text a_t_read a_t_comes a_t_begins a_t_latest a_t_move a_t_sort a_t_items a_t_cell a_t_carried t_isKept t_work t_kind t_letters t_at t_fault t_back t_waits t_miles t_loads t_bestRound t_bestPlace t_bestAdds t_regret t_z t_s t_comes t_begins x1 x2 x3 r10 o10_t_s o10_t_comes o10_t_begins o10_t_back o10_t_waits o10_t_loads hq10) (u_X8_put_X8_added_174 hts) (ci := 8) rfl 0 rfl rfl (by decide +kernel) [some 0, some 1, some 2, some 3] (by decide +kernel) rfl rfl rfl hl.1 rfl (Nat.le_of_ble_eq_true rfl) dX8_put_49 (fun H locs S => ?_)
          refine lv_istore (pc := 52) (lv' := [(4, .int r10), (0, .ref a_t), (1, .int x1), (2, .int x2), (3, .int x3)]) hx hb dX8_put_52 hl (by decide) rfl (fun ls hl => ?_)
          refine lv_iload (pc := 54) hx hb dX8_put_54 (lv_at hl 0 rfl) ?_
          refine lv_ldc (pc := 56) hx hb hown (hts _ qk_8_169) dX8_put_56 ?_
          refine lv_icmp_ne (tgt := 64) (pc := 58) hx hb dX8_put_58 (by decide) (fun c11 => ?_) (fun c11 => ?_)
          · have hf := ifn c11 hf
            refine lv_aload_n (pc := 64) hx hb dX8_put_64 rfl (lv_at hl 1 rfl) ?_
            refine lv_iload_n (pc := 65) hx hb dX8_put_65 rfl (lv_at hl 3 rfl) ?_
            refine lv_iload_n (pc := 66) hx hb dX8_put_66 rfl (lv_at hl 4 rfl) ?_
            refine lv_iload_n (pc := 67) hx hb dX8_put_67 rfl (lv_at hl 2 rfl) ?_
            obtain ⟨o12_t_s, hq12, hf⟩ := bd_e hf
            refine x_vV (pc := 68) (As := [.int x2, .int x3, .int x1]) (rest := []) (isC := [0, 1]) (ws' := (w_X8_put G a_t a_t_s a_t_image a_t_mind a_t_aside a_t_text a_t_read a_t_comes a_t_begins a_t_latest a_t_move a_t_sort a_t_items a_t_cell a_t_carried t_isKept t_work t_kind t_letters t_at t_fault o10_t_back o10_t_waits t_miles o10_t_loads t_bestRound t_bestPlace t_bestAdds t_regret t_z o12_t_s o10_t_comes o10_t_begins)) C S (c_X8_inserts l G a_t a_t_s a_t_image a_t_mind a_t_aside a_t_text a_t_read a_t_comes a_t_begins a_t_latest a_t_move a_t_sort a_t_items a_t_cell a_t_carried t_isKept t_work t_kind t_letters t_at t_fault o10_t_back o10_t_waits t_miles o10_t_loads t_bestRound t_bestPlace t_bestAdds t_regret t_z o10_t_s x2 x3 x1 o12_t_s hq12) (u_X8_put_X8_inserts_165 hts) (ci := 8) rfl 0 rfl rfl (by decide +kernel) [some 0, some 1, none, none] (by decide +kernel) rfl rfl rfl hl.1 rfl (Nat.le_of_ble_eq_true rfl) dX8_put_68 (fun H locs S => ?_)
            refine lv_iload (pc := 71) hx hb dX8_put_71 (lv_at hl 0 rfl) ?_
            cases hf
            exact x_iret (pc := 73) C S dX8_put_73
          · have hf := ifp c11 hf
            refine lv_bipush (pc := 61) hx hb dX8_put_61 bc_m3 ?_
            cases hf
            exact x_iret (pc := 63) C S dX8_put_63
        · have hf := ifp c9 hf
          refine lv_bipush (pc := 42) hx hb dX8_put_42 bc_m2 ?_
          cases hf
          exact x_iret (pc := 44) C S dX8_put_44
      · have hf := ifn c6 hf
        refine lv_bipush (pc := 25) hx hb dX8_put_25 bc_m3 ?_
        cases hf
        exact x_iret (pc := 27) C S dX8_put_27
    · have hf := ifp c4 hf
      refine lv_iconst (pc := 15) hx hb dX8_put_15 ic_m1 ?_
      cases hf
      exact x_iret (pc := 16) C S dX8_put_16
end

abbrev rm_X8_read : Room := { frames := 3, cells := 0, slots := 0, locals := 69 }
abbrev kw_X8_read : Cond := .code yX8_read cX8_read 5 (some .int)
abbrev w_X8_read (G : GE) (a_t a_t_s a_t_image a_t_mind a_t_aside a_t_text a_t_read a_t_comes a_t_begins a_t_latest a_t_move a_t_sort a_t_items a_t_cell a_t_carried : Nat) (t_isKept : Int32) (t_work : Int32) (t_kind : Int32) (t_letters : Int32) (t_at : Int32) (t_fault : Int32) (t_back : Int32) (t_waits : Int32) (t_miles : Int32) (t_loads : Int32) (t_bestRound : Int32) (t_bestPlace : Int32) (t_bestAdds : Int32) (t_regret : Int32) (t_z : Int32) (t_s : Nat → Int32) (t_text : Nat → Int32) (t_read : Nat → Int32) : va_W := [(a_t, ob 8 [.ref a_t_s, .ref a_t_image, .ref a_t_mind, .ref a_t_aside, .int t_isKept, .int t_work, .int t_kind, .ref a_t_text, .ref a_t_read, .int t_letters, .int t_at, .int t_fault, .ref a_t_comes, .ref a_t_begins, .ref a_t_latest, .int t_back, .int t_waits, .int t_miles, .int t_loads, .int t_bestRound, .int t_bestPlace, .int t_bestAdds, .int t_regret, .ref a_t_move, .ref a_t_sort, .ref a_t_items, .ref a_t_cell, .ref a_t_carried, .int t_z]), (a_t_s, aI G 258 t_s), (a_t_text, aI G 100 t_text), (a_t_read, aI G 36 t_read)]
theorem u_X8_read_X8_clause_144 {s : State} {args : Array Value} (hts : ∀ w ∈ WU, w.before args s = true) : CallW rm_X8_read s args RX8 RX8 144 yX8_clause cX8_clause 3 none (kw_X8_clause :: WU) rm_X8_clause 0 0 1 := cwV 1 hts (gV qm_8_144 qi_X8_clause ql_X8_clause qn_8 qc_X8_clause) rfl rfl rfl (by decide +kernel) ⟨Nat.le_of_ble_eq_true rfl, Nat.le_of_ble_eq_true rfl⟩
theorem u_X8_read_X8_takes_130 {s : State} {args : Array Value} (hts : ∀ w ∈ WU, w.before args s = true) : CallW rm_X8_read s args RX8 RX8 130 yX8_takes cX8_takes 3 (some .boolean) (kw_X8_takes :: WU) rm_X8_takes 0 0 1 := cwV 1 hts (gV qm_8_130 qi_X8_takes ql_X8_takes qn_8 qc_X8_takes) rfl rfl rfl (by decide +kernel) ⟨Nat.le_of_ble_eq_true rfl, Nat.le_of_ble_eq_true rfl⟩
theorem u_X8_read_X8_fails_133 {s : State} {args : Array Value} (hts : ∀ w ∈ WU, w.before args s = true) : CallW rm_X8_read s args RX8 RX8 133 yX8_fails cX8_fails 2 none (kw_X8_fails :: WU) rm_X8_fails 0 0 1 := cwV 1 hts (gV qm_8_133 qi_X8_fails ql_X8_fails qn_8 qc_X8_fails) rfl rfl rfl (by decide +kernel) ⟨Nat.le_of_ble_eq_true rfl, Nat.le_of_ble_eq_true rfl⟩
theorem u_X8_read_X8_comes_118 {s : State} {args : Array Value} (hts : ∀ w ∈ WU, w.before args s = true) : CallW rm_X8_read s args RX8 RX8 118 yX8_comes cX8_comes 8 none (kw_X8_comes :: WU) rm_X8_comes 0 0 6 := cwV 6 hts (gV qm_8_118 qi_X8_comes ql_X8_comes qn_8 qc_X8_comes) rfl rfl rfl (by decide +kernel) ⟨Nat.le_of_ble_eq_true rfl, Nat.le_of_ble_eq_true rfl⟩
section
variable {p : Program} {l : Launch} {e : Env} {s : State} {m : MethodId} {args : Array Value} {below : List Frame} {meth : Method} {c : Code} {A : Nat → Prop} {G : GE} {a_t a_t_s a_t_image a_t_mind a_t_aside a_t_text a_t_read a_t_comes a_t_begins a_t_latest a_t_move a_t_sort a_t_items a_t_cell a_t_carried : Nat} {r : Int32} {z_t_s : Nat → Int32} {z_t_read : Nat → Int32} {z_t_letters : Int32} {z_t_at : Int32} {z_t_fault : Int32}
set_option maxRecDepth 100000 in
set_option maxHeartbeats 4000000 in
theorem k_X8_read_81 (C : Cx p s m args meth c cX8_read (some .int) 5 RX8 G A) (t_isKept : Int32) (t_work : Int32) (t_kind : Int32) (t_letters : Int32) (t_at : Int32) (t_fault : Int32) (t_back : Int32) (t_waits : Int32) (t_miles : Int32) (t_loads : Int32) (t_bestRound : Int32) (t_bestPlace : Int32) (t_bestAdds : Int32) (t_regret : Int32) (t_z : Int32) (t_s : Nat → Int32) (t_text : Nat → Int32) (t_read : Nat → Int32) (x1 : Int32) (x2 : Int32) (x3 : Int32) (k81 : Int32 × Int32 × (Nat → Int32) → Option (Int32 × (Nat → Int32) × (Nat → Int32) × Int32 × Int32 × Int32)) (hk81 : ∀ {H : Heap} {locs : List Loc} {ls : Array Slot} (x2' : Int32) (x3' : Int32) (t_s' : Nat → Int32), k81 (x2', x3', t_s') = some (r, z_t_s, z_t_read, z_t_letters, z_t_at, z_t_fault) → St G A s.heap H locs (w_X8_read G a_t a_t_s a_t_image a_t_mind a_t_aside a_t_text a_t_read a_t_comes a_t_begins a_t_latest a_t_move a_t_sort a_t_items a_t_cell a_t_carried t_isKept t_work t_kind t_letters t_at t_fault t_back t_waits t_miles t_loads t_bestRound t_bestPlace t_bestAdds t_regret t_z t_s' t_text t_read) → lv_has ls 5 [(0, .ref a_t), (1, .int x1), (2, .int x2'), (3, .int x3')] → W p l e rm_X8_read s m args below meth c H locs 0 0 (QI G below args s A r (w_X8_read G a_t a_t_s a_t_image a_t_mind a_t_aside a_t_text a_t_read a_t_comes a_t_begins a_t_latest a_t_move a_t_sort a_t_items a_t_cell a_t_carried t_isKept t_work t_kind z_t_letters z_t_at z_t_fault t_back t_waits t_miles t_loads t_bestRound t_bestPlace t_bestAdds t_regret t_z z_t_s t_text z_t_read)) (F0 m 81 ls [])) {H : Heap} {locs : List Loc} {ls : Array Slot} (hf : b_X8_read_81 x1 t_read t_letters t_at t_fault k81 x2 x3 t_s = some (r, z_t_s, z_t_read, z_t_letters, z_t_at, z_t_fault)) (S : St G A s.heap H locs (w_X8_read G a_t a_t_s a_t_image a_t_mind a_t_aside a_t_text a_t_read a_t_comes a_t_begins a_t_latest a_t_move a_t_sort a_t_items a_t_cell a_t_carried t_isKept t_work t_kind t_letters t_at t_fault t_back t_waits t_miles t_loads t_bestRound t_bestPlace t_bestAdds t_regret t_z t_s t_text t_read)) (hl : lv_has ls 5 [(0, .ref a_t), (1, .int x1), (2, .int x2), (3, .int x3)]) : W p l e rm_X8_read s m args below meth c H locs 0 0 (QI G below args s A r (w_X8_read G a_t a_t_s a_t_image a_t_mind a_t_aside a_t_text a_t_read a_t_comes a_t_begins a_t_latest a_t_move a_t_sort a_t_items a_t_cell a_t_carried t_isKept t_work t_kind z_t_letters z_t_at z_t_fault t_back t_waits t_miles t_loads t_bestRound t_bestPlace t_bestAdds t_regret t_z z_t_s t_text z_t_read)) (F0 m 81 ls []) := by
  unfold b_X8_read_81 at hf
  have hx := C.1
  have hb := C.2.1
  have hown := C.2.2.2.2.1
  have hts := C.2.2.2.2.2.1
  have hN := C.2.2.2.2.2.2.2.2.2.2
  refine lv_iload_n (pc := 81) hx hb dX8_read_81 rfl (lv_at hl 3 rfl) ?_
  refine lv_iload_n (pc := 82) hx hb dX8_read_82 rfl (lv_at hl 1 rfl) ?_
  refine lv_icmp_ge (tgt := 168) (pc := 83) hx hb dX8_read_83 (by decide) (fun c1 => ?_) (fun c1 => ?_)
  · have hf := ifp c1 hf
    refine lv_iload_n (pc := 168) hx hb dX8_read_168 rfl (lv_at hl 2 rfl) ?_
    cases hf
    exact x_iret (pc := 169) C S dX8_read_169
  · have hf := ifn c1 hf
    refine lv_aload_n (pc := 86) hx hb dX8_read_86 rfl (lv_at hl 0 rfl) ?_
    refine x_get (pc := 87) (ci := 8) (T := TX8) (v := .ref a_t_s) C S 0 rfl rfl inlX8 0 (by decide) rfl qf_8_11 rfl dX8_read_87 ?_
    refine lv_iconst (pc := 90) hx hb dX8_read_90 ic_4 ?_
    refine x_iald (pc := 91) C S 1 rfl (vp_in_iff.mpr (by decide)) dX8_read_91 ?_
    refine lv_bipush (pc := 92) hx hb dX8_read_92 bc_16 ?_
    refine lv_icmp_ge (tgt := 168) (pc := 94) hx hb dX8_read_94 (by decide) (fun c2 => ?_) (fun c2 => ?_)
    · have hf := ifp c2 hf
      refine lv_iload_n (pc := 168) hx hb dX8_read_168 rfl (lv_at hl 2 rfl) ?_
      cases hf
      exact x_iret (pc := 169) C S dX8_read_169
    · have hf := ifn c2 hf
      refine lv_bipush (pc := 97) hx hb dX8_read_97 bc_6 ?_
      refine lv_iload_n (pc := 99) hx hb dX8_read_99 rfl (lv_at hl 3 rfl) ?_
      refine lv_imul (pc := 100) hx hb dX8_read_100 ?_
      refine lv_istore (pc := 101) (lv' := [(4, .int ((6 : Int32) * x3)), (0, .ref a_t), (1, .int x1), (2, .int x2), (3, .int x3)]) hx hb dX8_read_101 hl (by decide) rfl (fun ls hl => ?_)
      refine lv_aload_n (pc := 103) hx hb dX8_read_103 rfl (lv_at hl 1 rfl) ?_
      refine lv_aload_n (pc := 104) hx hb dX8_read_104 rfl (lv_at hl 1 rfl) ?_
      refine x_get (pc := 105) (ci := 8) (T := TX8) (v := .ref a_t_read) C S 0 rfl rfl inlX8 8 (by decide) rfl qf_8_27 rfl dX8_read_105 ?_
      refine lv_iload (pc := 108) hx hb dX8_read_108 (lv_at hl 0 rfl) ?_
      obtain ⟨hv3, hf⟩ := gI_e hf
      refine x_iald (pc := 110) C S 3 rfl hv3 dX8_read_110 ?_
      refine lv_aload_n (pc := 111) hx hb dX8_read_111 rfl (lv_at hl 1 rfl) ?_
      refine x_get (pc := 112) (ci := 8) (T := TX8) (v := .ref a_t_read) C S 0 rfl rfl inlX8 8 (by decide) rfl qf_8_27 rfl dX8_read_112 ?_
      refine lv_iload (pc := 115) hx hb dX8_read_115 (lv_at hl 0 rfl) ?_
      refine lv_iconst (pc := 117) hx hb dX8_read_117 ic_1 ?_
      refine lv_iadd (pc := 118) hx hb dX8_read_118 ?_
      obtain ⟨hv4, hf⟩ := gI_e hf
      refine x_iald (pc := 119) C S 3 rfl hv4 dX8_read_119 ?_
      refine lv_aload_n (pc := 120) hx hb dX8_read_120 rfl (lv_at hl 1 rfl) ?_
      refine x_get (pc := 121) (ci := 8) (T := TX8) (v := .ref a_t_read) C S 0 rfl rfl inlX8 8 (by decide) rfl qf_8_27 rfl dX8_read_121 ?_
      refine lv_iload (pc := 124) hx hb dX8_read_124 (lv_at hl 0 rfl) ?_
      refine lv_iconst (pc := 126) hx hb dX8_read_126 ic_2 ?_
      refine lv_iadd (pc := 127) hx hb dX8_read_127 ?_
      obtain ⟨hv5, hf⟩ := gI_e hf
      refine x_iald (pc := 128) C S 3 rfl hv5 dX8_read_128 ?_
      refine lv_aload_n (pc := 129) hx hb dX8_read_129 rfl (lv_at hl 1 rfl) ?_
      refine x_get (pc := 130) (ci := 8) (T := TX8) (v := .ref a_t_read) C S 0 rfl rfl inlX8 8 (by decide) rfl qf_8_27 rfl dX8_read_130 ?_
      refine lv_iload (pc := 133) hx hb dX8_read_133 (lv_at hl 0 rfl) ?_
      refine lv_iconst (pc := 135) hx hb dX8_read_135 ic_3 ?_
      refine lv_iadd (pc := 136) hx hb dX8_read_136 ?_
      obtain ⟨hv6, hf⟩ := gI_e hf
      refine x_iald (pc := 137) C S 3 rfl hv6 dX8_read_137 ?_
      refine lv_aload_n (pc := 138) hx hb dX8_read_138 rfl (lv_at hl 1 rfl) ?_
      refine x_get (pc := 139) (ci := 8) (T := TX8) (v := .ref a_t_read) C S 0 rfl rfl inlX8 8 (by decide) rfl qf_8_27 rfl dX8_read_139 ?_
      refine lv_iload (pc := 142) hx hb dX8_read_142 (lv_at hl 0 rfl) ?_
      refine lv_iconst (pc := 144) hx hb dX8_read_144 ic_4 ?_
      refine lv_iadd (pc := 145) hx hb dX8_read_145 ?_
      obtain ⟨hv7, hf⟩ := gI_e hf
      refine x_iald (pc := 146) C S 3 rfl hv7 dX8_read_146 ?_
      refine lv_aload_n (pc := 147) hx hb dX8_read_147 rfl (lv_at hl 1 rfl) ?_
      refine x_get (pc := 148) (ci := 8) (T := TX8) (v := .ref a_t_read) C S 0 rfl rfl inlX8 8 (by decide) rfl qf_8_27 rfl dX8_read_148 ?_
      refine lv_iload (pc := 151) hx hb dX8_read_151 (lv_at hl 0 rfl) ?_
      refine lv_iconst (pc := 153) hx hb dX8_read_153 ic_5 ?_
      refine lv_iadd (pc := 154) hx hb dX8_read_154 ?_
      obtain ⟨hv8, hf⟩ := gI_e hf
      refine x_iald (pc := 155) C S 3 rfl hv8 dX8_read_155 ?_
      obtain ⟨o9_t_s, hq9, hf⟩ := bd_e hf
      refine x_vV (pc := 156) (As := [.int (t_read ((6 : Int32) * x3).toNatClampNeg), .int (t_read (((6 : Int32) * x3) + (1 : Int32)).toNatClampNeg), .int (t_read (((6 : Int32) * x3) + (2 : Int32)).toNatClampNeg), .int (t_read (((6 : Int32) * x3) + (3 : Int32)).toNatClampNeg), .int (t_read (((6 : Int32) * x3) + (4 : Int32)).toNatClampNeg), .int (t_read (((6 : Int32) * x3) + (5 : Int32)).toNatClampNeg)]) (rest := []) (isC := [0, 1]) (ws' := (w_X8_read G a_t a_t_s a_t_image a_t_mind a_t_aside a_t_text a_t_read a_t_comes a_t_begins a_t_latest a_t_move a_t_sort a_t_items a_t_cell a_t_carried t_isKept t_work t_kind t_letters t_at t_fault t_back t_waits t_miles t_loads t_bestRound t_bestPlace t_bestAdds t_regret t_z o9_t_s t_text t_read)) C S (c_X8_comes l G a_t a_t_s a_t_image a_t_mind a_t_aside a_t_text a_t_read a_t_comes a_t_begins a_t_latest a_t_move a_t_sort a_t_items a_t_cell a_t_carried t_isKept t_work t_kind t_letters t_at t_fault t_back t_waits t_miles t_loads t_bestRound t_bestPlace t_bestAdds t_regret t_z t_s (t_read ((6 : Int32) * x3).toNatClampNeg) (t_read (((6 : Int32) * x3) + (1 : Int32)).toNatClampNeg) (t_read (((6 : Int32) * x3) + (2 : Int32)).toNatClampNeg) (t_read (((6 : Int32) * x3) + (3 : Int32)).toNatClampNeg) (t_read (((6 : Int32) * x3) + (4 : Int32)).toNatClampNeg) (t_read (((6 : Int32) * x3) + (5 : Int32)).toNatClampNeg) o9_t_s hq9) (u_X8_read_X8_comes_118 hts) (ci := 8) rfl 0 rfl rfl (by decide +kernel) [some 0, some 1, none, none] (by decide +kernel) rfl rfl rfl hl.1 rfl (Nat.le_of_ble_eq_true rfl) dX8_read_156 (fun H locs S => ?_)
      refine lv_iinc (pc := 159) (v := (x2 + (1 : Int32))) (lv' := [(2, .int (x2 + (1 : Int32))), (4, .int ((6 : Int32) * x3)), (0, .ref a_t), (1, .int x1), (3, .int x3)]) hx hb dX8_read_159 hl (k := 3) rfl (congrArg (fun z => x2 + z) ic_1) (by decide) rfl (fun ls hl => ?_)
      refine lv_iinc (pc := 162) (v := (x3 + (1 : Int32))) (lv' := [(3, .int (x3 + (1 : Int32))), (2, .int (x2 + (1 : Int32))), (4, .int ((6 : Int32) * x3)), (0, .ref a_t), (1, .int x1)]) hx hb dX8_read_162 hl (k := 4) rfl (congrArg (fun z => x3 + z) ic_1) (by decide) rfl (fun ls hl => ?_)
      refine lv_goto (tgt := 81) (pc := 165) hx hb dX8_read_165 (by decide) ?_
      exact hk81 ((x2 + (1 : Int32))) ((x3 + (1 : Int32))) (o9_t_s)  hf S (lv_sub hl [3, 4, 1, 0] rfl)
set_option maxRecDepth 100000 in
set_option maxHeartbeats 4000000 in
theorem h_X8_read_81 (C : Cx p s m args meth c cX8_read (some .int) 5 RX8 G A) (t_isKept : Int32) (t_work : Int32) (t_kind : Int32) (t_letters : Int32) (t_at : Int32) (t_fault : Int32) (t_back : Int32) (t_waits : Int32) (t_miles : Int32) (t_loads : Int32) (t_bestRound : Int32) (t_bestPlace : Int32) (t_bestAdds : Int32) (t_regret : Int32) (t_z : Int32) (t_text : Nat → Int32) (t_read : Nat → Int32) (x1 : Int32) : ∀ (n : Nat) (x2 : Int32) (x3 : Int32) (t_s : Nat → Int32) {H : Heap} {locs : List Loc} {ls : Array Slot} (hf : lp (fun k x => b_X8_read_81 x1 t_read t_letters t_at t_fault k x.1 x.2.1 x.2.2) n (x2, x3, t_s) = some (r, z_t_s, z_t_read, z_t_letters, z_t_at, z_t_fault)) (S : St G A s.heap H locs (w_X8_read G a_t a_t_s a_t_image a_t_mind a_t_aside a_t_text a_t_read a_t_comes a_t_begins a_t_latest a_t_move a_t_sort a_t_items a_t_cell a_t_carried t_isKept t_work t_kind t_letters t_at t_fault t_back t_waits t_miles t_loads t_bestRound t_bestPlace t_bestAdds t_regret t_z t_s t_text t_read)) (hl : lv_has ls 5 [(0, .ref a_t), (1, .int x1), (2, .int x2), (3, .int x3)]), W p l e rm_X8_read s m args below meth c H locs 0 0 (QI G below args s A r (w_X8_read G a_t a_t_s a_t_image a_t_mind a_t_aside a_t_text a_t_read a_t_comes a_t_begins a_t_latest a_t_move a_t_sort a_t_items a_t_cell a_t_carried t_isKept t_work t_kind z_t_letters z_t_at z_t_fault t_back t_waits t_miles t_loads t_bestRound t_bestPlace t_bestAdds t_regret t_z z_t_s t_text z_t_read)) (F0 m 81 ls []) := by
  intro n
  induction n with
  | zero =>
    intro x2 x3 t_s  H locs ls hf
    cases hf
  | succ n ih =>
    intro x2 x3 t_s  H locs ls hf S hl
    have hf : b_X8_read_81 x1 t_read t_letters t_at t_fault (lp (fun k x => b_X8_read_81 x1 t_read t_letters t_at t_fault k x.1 x.2.1 x.2.2) n) x2 x3 t_s = some (r, z_t_s, z_t_read, z_t_letters, z_t_at, z_t_fault) := hf
    exact k_X8_read_81 C t_isKept t_work t_kind t_letters t_at t_fault t_back t_waits t_miles t_loads t_bestRound t_bestPlace t_bestAdds t_regret t_z t_s t_text t_read x1 x2 x3  (lp (fun k x => b_X8_read_81 x1 t_read t_letters t_at t_fault k x.1 x.2.1 x.2.2) n) (fun x2' x3' t_s'  h S hl => ih x2' x3' t_s'  h S hl) hf S hl
set_option maxRecDepth 100000 in
set_option maxHeartbeats 4000000 in
theorem k_X8_read_57 (C : Cx p s m args meth c cX8_read (some .int) 5 RX8 G A) (t_isKept : Int32) (t_work : Int32) (t_kind : Int32) (t_letters : Int32) (t_at : Int32) (t_fault : Int32) (t_back : Int32) (t_waits : Int32) (t_miles : Int32) (t_loads : Int32) (t_bestRound : Int32) (t_bestPlace : Int32) (t_bestAdds : Int32) (t_regret : Int32) (t_z : Int32) (t_s : Nat → Int32) (t_text : Nat → Int32) (t_read : Nat → Int32) (x1 : Int32) {H : Heap} {locs : List Loc} {ls : Array Slot} (hf : b_X8_read_57 x1 t_s t_read t_at t_fault = some (r, z_t_s, z_t_read, z_t_letters, z_t_at, z_t_fault)) (S : St G A s.heap H locs (w_X8_read G a_t a_t_s a_t_image a_t_mind a_t_aside a_t_text a_t_read a_t_comes a_t_begins a_t_latest a_t_move a_t_sort a_t_items a_t_cell a_t_carried t_isKept t_work t_kind t_letters t_at t_fault t_back t_waits t_miles t_loads t_bestRound t_bestPlace t_bestAdds t_regret t_z t_s t_text t_read)) (hl : lv_has ls 5 [(0, .ref a_t), (1, .int x1)]) : W p l e rm_X8_read s m args below meth c H locs 0 0 (QI G below args s A r (w_X8_read G a_t a_t_s a_t_image a_t_mind a_t_aside a_t_text a_t_read a_t_comes a_t_begins a_t_latest a_t_move a_t_sort a_t_items a_t_cell a_t_carried t_isKept t_work t_kind z_t_letters z_t_at z_t_fault t_back t_waits t_miles t_loads t_bestRound t_bestPlace t_bestAdds t_regret t_z z_t_s t_text z_t_read)) (F0 m 57 ls []) := by
  unfold b_X8_read_57 at hf
  have hx := C.1
  have hb := C.2.1
  have hown := C.2.2.2.2.1
  have hts := C.2.2.2.2.2.1
  have hN := C.2.2.2.2.2.2.2.2.2.2
  refine lv_aload_n (pc := 57) hx hb dX8_read_57 rfl (lv_at hl 0 rfl) ?_
  refine lv_iconst (pc := 58) hx hb dX8_read_58 ic_0 ?_
  refine x_put (pc := 59) (ci := 8) (T := TX8) (ws' := (w_X8_read G a_t a_t_s a_t_image a_t_mind a_t_aside a_t_text a_t_read a_t_comes a_t_begins a_t_latest a_t_move a_t_sort a_t_items a_t_cell a_t_carried t_isKept t_work t_kind (0 : Int32) t_at t_fault t_back t_waits t_miles t_loads t_bestRound t_bestPlace t_bestAdds t_regret t_z t_s t_text t_read)) C S tyX8 tyX8_ok nmX8 0 rfl rfl inlX8 9 (by decide) rfl qf_8_121 rfl rfl rfl rfl (Nat.le_of_ble_eq_true rfl) rfl dX8_read_59 (fun H locs S => ?_)
  refine lv_aload_n (pc := 62) hx hb dX8_read_62 rfl (lv_at hl 0 rfl) ?_
  refine x_get (pc := 63) (ci := 8) (T := TX8) (v := .int t_fault) C S 0 rfl rfl inlX8 11 (by decide) rfl qf_8_124 rfl dX8_read_63 ?_
  refine lv_if_lt (tgt := 77) (pc := 66) hx hb dX8_read_66 (by decide) (fun c1 => ?_) (fun c1 => ?_)
  · have hf := ifp c1 hf
    refine lv_iconst (pc := 77) hx hb dX8_read_77 ic_0 ?_
    refine lv_istore_n (pc := 78) (lv' := [(2, .int (0 : Int32)), (0, .ref a_t), (1, .int x1)]) hx hb dX8_read_78 rfl hl (by decide) rfl (fun ls hl => ?_)
    refine lv_iconst (pc := 79) hx hb dX8_read_79 ic_0 ?_
    refine lv_istore_n (pc := 80) (lv' := [(3, .int (0 : Int32)), (2, .int (0 : Int32)), (0, .ref a_t), (1, .int x1)]) hx hb dX8_read_80 rfl hl (by decide) rfl (fun ls hl => ?_)
    exact h_X8_read_81 C (t_isKept) (t_work) (t_kind) ((0 : Int32)) (t_at) (t_fault) (t_back) (t_waits) (t_miles) (t_loads) (t_bestRound) (t_bestPlace) (t_bestAdds) (t_regret) (t_z) (t_text) (t_read) (x1) fu ((0 : Int32)) ((0 : Int32)) (t_s) hf S (lv_sub hl [2, 3, 1, 0] rfl)
  · have hf := ifn c1 hf
    refine lv_bipush (pc := 69) hx hb dX8_read_69 bc_m10 ?_
    refine lv_aload_n (pc := 71) hx hb dX8_read_71 rfl (lv_at hl 0 rfl) ?_
    refine x_get (pc := 72) (ci := 8) (T := TX8) (v := .int t_fault) C S 0 rfl rfl inlX8 11 (by decide) rfl qf_8_124 rfl dX8_read_72 ?_
    refine lv_isub (pc := 75) hx hb dX8_read_75 ?_
    have e9 := Option.some.inj hf
    simp only [Prod.mk.injEq] at e9
    obtain ⟨rfl, rfl, rfl, rfl, rfl, rfl⟩ := e9
    exact x_iret (pc := 76) C S dX8_read_76
set_option maxRecDepth 100000 in
set_option maxHeartbeats 4000000 in
theorem k_X8_read_38 (C : Cx p s m args meth c cX8_read (some .int) 5 RX8 G A) (t_isKept : Int32) (t_work : Int32) (t_kind : Int32) (t_letters : Int32) (t_at : Int32) (t_fault : Int32) (t_back : Int32) (t_waits : Int32) (t_miles : Int32) (t_loads : Int32) (t_bestRound : Int32) (t_bestPlace : Int32) (t_bestAdds : Int32) (t_regret : Int32) (t_z : Int32) (t_s : Nat → Int32) (t_text : Nat → Int32) (t_read : Nat → Int32) (x1 : Int32) {H : Heap} {locs : List Loc} {ls : Array Slot} (hf : b_X8_read_38 x1 t_s t_read t_letters t_at t_fault = some (r, z_t_s, z_t_read, z_t_letters, z_t_at, z_t_fault)) (S : St G A s.heap H locs (w_X8_read G a_t a_t_s a_t_image a_t_mind a_t_aside a_t_text a_t_read a_t_comes a_t_begins a_t_latest a_t_move a_t_sort a_t_items a_t_cell a_t_carried t_isKept t_work t_kind t_letters t_at t_fault t_back t_waits t_miles t_loads t_bestRound t_bestPlace t_bestAdds t_regret t_z t_s t_text t_read)) (hl : lv_has ls 5 [(0, .ref a_t), (1, .int x1)]) : W p l e rm_X8_read s m args below meth c H locs 0 0 (QI G below args s A r (w_X8_read G a_t a_t_s a_t_image a_t_mind a_t_aside a_t_text a_t_read a_t_comes a_t_begins a_t_latest a_t_move a_t_sort a_t_items a_t_cell a_t_carried t_isKept t_work t_kind z_t_letters z_t_at z_t_fault t_back t_waits t_miles t_loads t_bestRound t_bestPlace t_bestAdds t_regret t_z z_t_s t_text z_t_read)) (F0 m 38 ls []) := by
  unfold b_X8_read_38 at hf
  have hx := C.1
  have hb := C.2.1
  have hown := C.2.2.2.2.1
  have hts := C.2.2.2.2.2.1
  have hN := C.2.2.2.2.2.2.2.2.2.2
  refine lv_aload_n (pc := 38) hx hb dX8_read_38 rfl (lv_at hl 0 rfl) ?_
  refine x_get (pc := 39) (ci := 8) (T := TX8) (v := .int t_at) C S 0 rfl rfl inlX8 10 (by decide) rfl qf_8_127 rfl dX8_read_39 ?_
  refine lv_aload_n (pc := 42) hx hb dX8_read_42 rfl (lv_at hl 0 rfl) ?_
  refine x_get (pc := 43) (ci := 8) (T := TX8) (v := .int t_letters) C S 0 rfl rfl inlX8 9 (by decide) rfl qf_8_121 rfl dX8_read_43 ?_
  refine lv_icmp_ge (tgt := 57) (pc := 46) hx hb dX8_read_46 (by decide) (fun c1 => ?_) (fun c1 => ?_)
  · have hf := ifp c1 hf
    exact k_X8_read_57 C (t_isKept) (t_work) (t_kind) (t_letters) (t_at) (t_fault) (t_back) (t_waits) (t_miles) (t_loads) (t_bestRound) (t_bestPlace) (t_bestAdds) (t_regret) (t_z) (t_s) (t_text) (t_read) (x1) hf S (lv_sub hl [0, 1] rfl)
  · have hf := ifn c1 hf
    refine lv_aload_n (pc := 49) hx hb dX8_read_49 rfl (lv_at hl 0 rfl) ?_
    refine lv_aload_n (pc := 50) hx hb dX8_read_50 rfl (lv_at hl 0 rfl) ?_
    refine x_get (pc := 51) (ci := 8) (T := TX8) (v := .int t_at) C S 0 rfl rfl inlX8 10 (by decide) rfl qf_8_127 rfl dX8_read_51 ?_
    obtain ⟨o2_t_fault, hq2, hf⟩ := bd_e hf
    refine x_vV (pc := 54) (As := [.int t_at]) (rest := []) (isC := [0]) (ws' := (w_X8_read G a_t a_t_s a_t_image a_t_mind a_t_aside a_t_text a_t_read a_t_comes a_t_begins a_t_latest a_t_move a_t_sort a_t_items a_t_cell a_t_carried t_isKept t_work t_kind t_letters t_at o2_t_fault t_back t_waits t_miles t_loads t_bestRound t_bestPlace t_bestAdds t_regret t_z t_s t_text t_read)) C S (c_X8_fails l G a_t a_t_s a_t_image a_t_mind a_t_aside a_t_text a_t_read a_t_comes a_t_begins a_t_latest a_t_move a_t_sort a_t_items a_t_cell a_t_carried t_isKept t_work t_kind t_letters t_at t_fault t_back t_waits t_miles t_loads t_bestRound t_bestPlace t_bestAdds t_regret t_z t_at o2_t_fault hq2) (u_X8_read_X8_fails_133 hts) (ci := 8) rfl 0 rfl rfl (by decide +kernel) [some 0, none, none, none] (by decide +kernel) rfl rfl rfl hl.1 rfl (Nat.le_of_ble_eq_true rfl) dX8_read_54 (fun H locs S => ?_)
    exact k_X8_read_57 C (t_isKept) (t_work) (t_kind) (t_letters) (t_at) (o2_t_fault) (t_back) (t_waits) (t_miles) (t_loads) (t_bestRound) (t_bestPlace) (t_bestAdds) (t_regret) (t_z) (t_s) (t_text) (t_read) (x1) hf S (lv_sub hl [0, 1] rfl)
set_option maxRecDepth 100000 in
set_option maxHeartbeats 4000000 in
theorem k_X8_read_12 (C : Cx p s m args meth c cX8_read (some .int) 5 RX8 G A) (t_isKept : Int32) (t_work : Int32) (t_kind : Int32) (t_letters : Int32) (t_at : Int32) (t_fault : Int32) (t_back : Int32) (t_waits : Int32) (t_miles : Int32) (t_loads : Int32) (t_bestRound : Int32) (t_bestPlace : Int32) (t_bestAdds : Int32) (t_regret : Int32) (t_z : Int32) (t_s : Nat → Int32) (t_text : Nat → Int32) (t_read : Nat → Int32) (x1 : Int32) (k12 : Int32 × (Nat → Int32) × Int32 × Int32 → Option (Int32 × (Nat → Int32) × (Nat → Int32) × Int32 × Int32 × Int32)) (hk12 : ∀ {H : Heap} {locs : List Loc} {ls : Array Slot} (x1' : Int32) (t_read' : Nat → Int32) (t_at' : Int32) (t_fault' : Int32), k12 (x1', t_read', t_at', t_fault') = some (r, z_t_s, z_t_read, z_t_letters, z_t_at, z_t_fault) → St G A s.heap H locs (w_X8_read G a_t a_t_s a_t_image a_t_mind a_t_aside a_t_text a_t_read a_t_comes a_t_begins a_t_latest a_t_move a_t_sort a_t_items a_t_cell a_t_carried t_isKept t_work t_kind t_letters t_at' t_fault' t_back t_waits t_miles t_loads t_bestRound t_bestPlace t_bestAdds t_regret t_z t_s t_text t_read') → lv_has ls 5 [(0, .ref a_t), (1, .int x1')] → W p l e rm_X8_read s m args below meth c H locs 0 0 (QI G below args s A r (w_X8_read G a_t a_t_s a_t_image a_t_mind a_t_aside a_t_text a_t_read a_t_comes a_t_begins a_t_latest a_t_move a_t_sort a_t_items a_t_cell a_t_carried t_isKept t_work t_kind z_t_letters z_t_at z_t_fault t_back t_waits t_miles t_loads t_bestRound t_bestPlace t_bestAdds t_regret t_z z_t_s t_text z_t_read)) (F0 m 12 ls [])) {H : Heap} {locs : List Loc} {ls : Array Slot} (hf : b_X8_read_12 t_s t_text t_letters k12 x1 t_read t_at t_fault = some (r, z_t_s, z_t_read, z_t_letters, z_t_at, z_t_fault)) (S : St G A s.heap H locs (w_X8_read G a_t a_t_s a_t_image a_t_mind a_t_aside a_t_text a_t_read a_t_comes a_t_begins a_t_latest a_t_move a_t_sort a_t_items a_t_cell a_t_carried t_isKept t_work t_kind t_letters t_at t_fault t_back t_waits t_miles t_loads t_bestRound t_bestPlace t_bestAdds t_regret t_z t_s t_text t_read)) (hl : lv_has ls 5 [(0, .ref a_t), (1, .int x1)]) : W p l e rm_X8_read s m args below meth c H locs 0 0 (QI G below args s A r (w_X8_read G a_t a_t_s a_t_image a_t_mind a_t_aside a_t_text a_t_read a_t_comes a_t_begins a_t_latest a_t_move a_t_sort a_t_items a_t_cell a_t_carried t_isKept t_work t_kind z_t_letters z_t_at z_t_fault t_back t_waits t_miles t_loads t_bestRound t_bestPlace t_bestAdds t_regret t_z z_t_s t_text z_t_read)) (F0 m 12 ls []) := by
  unfold b_X8_read_12 at hf
  have hx := C.1
  have hb := C.2.1
  have hown := C.2.2.2.2.1
  have hts := C.2.2.2.2.2.1
  have hN := C.2.2.2.2.2.2.2.2.2.2
  refine lv_aload_n (pc := 12) hx hb dX8_read_12 rfl (lv_at hl 0 rfl) ?_
  refine lv_bipush (pc := 13) hx hb dX8_read_13 bc_6 ?_
  refine lv_iload_n (pc := 15) hx hb dX8_read_15 rfl (lv_at hl 1 rfl) ?_
  refine lv_imul (pc := 16) hx hb dX8_read_16 ?_
  obtain ⟨⟨o1_t_read, o1_t_at, o1_t_fault⟩, hq1, hf⟩ := bd_e hf
  refine x_vV (pc := 17) (As := [.int ((6 : Int32) * x1)]) (rest := []) (isC := [0, 2, 3]) (ws' := (w_X8_read G a_t a_t_s a_t_image a_t_mind a_t_aside a_t_text a_t_read a_t_comes a_t_begins a_t_latest a_t_move a_t_sort a_t_items a_t_cell a_t_carried t_isKept t_work t_kind t_letters o1_t_at o1_t_fault t_back t_waits t_miles t_loads t_bestRound t_bestPlace t_bestAdds t_regret t_z t_s t_text o1_t_read)) C S (c_X8_clause l G a_t a_t_s a_t_image a_t_mind a_t_aside a_t_text a_t_read a_t_comes a_t_begins a_t_latest a_t_move a_t_sort a_t_items a_t_cell a_t_carried t_isKept t_work t_kind t_letters t_at t_fault t_back t_waits t_miles t_loads t_bestRound t_bestPlace t_bestAdds t_regret t_z t_text t_read ((6 : Int32) * x1) o1_t_read o1_t_at o1_t_fault hq1) (u_X8_read_X8_clause_144 hts) (ci := 8) rfl 0 rfl rfl (by decide +kernel) [some 0, none, some 1, some 2] (by decide +kernel) rfl rfl rfl hl.1 rfl (Nat.le_of_ble_eq_true rfl) dX8_read_17 (fun H locs S => ?_)
  refine lv_iinc (pc := 20) (v := (x1 + (1 : Int32))) (lv' := [(1, .int (x1 + (1 : Int32))), (0, .ref a_t)]) hx hb dX8_read_20 hl (k := 1) rfl (congrArg (fun z => x1 + z) ic_1) (by decide) rfl (fun ls hl => ?_)
  refine lv_iload_n (pc := 23) hx hb dX8_read_23 rfl (lv_at hl 0 rfl) ?_
  refine lv_bipush (pc := 24) hx hb dX8_read_24 bc_6 ?_
  refine lv_icmp_ge (tgt := 38) (pc := 26) hx hb dX8_read_26 (by decide) (fun c2 => ?_) (fun c2 => ?_)
  · have hf := ifp c2 hf
    exact k_X8_read_38 C (t_isKept) (t_work) (t_kind) (t_letters) (o1_t_at) (o1_t_fault) (t_back) (t_waits) (t_miles) (t_loads) (t_bestRound) (t_bestPlace) (t_bestAdds) (t_regret) (t_z) (t_s) (t_text) (o1_t_read) ((x1 + (1 : Int32))) hf S (lv_sub hl [1, 0] rfl)
  · have hf := ifn c2 hf
    refine lv_aload_n (pc := 29) hx hb dX8_read_29 rfl (lv_at hl 1 rfl) ?_
    refine lv_bipush (pc := 30) hx hb dX8_read_30 bc_59 ?_
    obtain ⟨⟨r3, o3_t_at⟩, hq3, hf⟩ := bd_e hf
    refine x_vI (pc := 32) (As := [.int (59 : Int32)]) (rest := []) (isC := [0, 2]) (ws' := (w_X8_read G a_t a_t_s a_t_image a_t_mind a_t_aside a_t_text a_t_read a_t_comes a_t_begins a_t_latest a_t_move a_t_sort a_t_items a_t_cell a_t_carried t_isKept t_work t_kind t_letters o3_t_at o1_t_fault t_back t_waits t_miles t_loads t_bestRound t_bestPlace t_bestAdds t_regret t_z t_s t_text o1_t_read)) C S (c_X8_takes l G a_t a_t_s a_t_image a_t_mind a_t_aside a_t_text a_t_read a_t_comes a_t_begins a_t_latest a_t_move a_t_sort a_t_items a_t_cell a_t_carried t_isKept t_work t_kind t_letters o1_t_at o1_t_fault t_back t_waits t_miles t_loads t_bestRound t_bestPlace t_bestAdds t_regret t_z t_text (59 : Int32) r3 o3_t_at hq3) (u_X8_read_X8_takes_130 hts) (ci := 8) rfl 0 rfl rfl (by decide +kernel) [some 0, none, some 1, none] (by decide +kernel) rfl rfl rfl hl.1 rfl (Nat.le_of_ble_eq_true rfl) dX8_read_32 (fun H locs S => ?_)
    refine lv_if_ne (tgt := 12) (pc := 35) hx hb dX8_read_35 (by decide) (fun c4 => ?_) (fun c4 => ?_)
    · have hf := ifn c4 hf
      exact hk12 ((x1 + (1 : Int32))) (o1_t_read) (o3_t_at) (o1_t_fault)  hf S (lv_sub hl [1, 0] rfl)
    · have hf := ifp c4 hf
      exact k_X8_read_38 C (t_isKept) (t_work) (t_kind) (t_letters) (o3_t_at) (o1_t_fault) (t_back) (t_waits) (t_miles) (t_loads) (t_bestRound) (t_bestPlace) (t_bestAdds) (t_regret) (t_z) (t_s) (t_text) (o1_t_read) ((x1 + (1 : Int32))) hf S (lv_sub hl [1, 0] rfl)
set_option maxRecDepth 100000 in
set_option maxHeartbeats 4000000 in
theorem h_X8_read_12 (C : Cx p s m args meth c cX8_read (some .int) 5 RX8 G A) (t_isKept : Int32) (t_work : Int32) (t_kind : Int32) (t_letters : Int32) (t_back : Int32) (t_waits : Int32) (t_miles : Int32) (t_loads : Int32) (t_bestRound : Int32) (t_bestPlace : Int32) (t_bestAdds : Int32) (t_regret : Int32) (t_z : Int32) (t_s : Nat → Int32) (t_text : Nat → Int32) : ∀ (n : Nat) (x1 : Int32) (t_read : Nat → Int32) (t_at : Int32) (t_fault : Int32) {H : Heap} {locs : List Loc} {ls : Array Slot} (hf : lp (fun k x => b_X8_read_12 t_s t_text t_letters k x.1 x.2.1 x.2.2.1 x.2.2.2) n (x1, t_read, t_at, t_fault) = some (r, z_t_s, z_t_read, z_t_letters, z_t_at, z_t_fault)) (S : St G A s.heap H locs (w_X8_read G a_t a_t_s a_t_image a_t_mind a_t_aside a_t_text a_t_read a_t_comes a_t_begins a_t_latest a_t_move a_t_sort a_t_items a_t_cell a_t_carried t_isKept t_work t_kind t_letters t_at t_fault t_back t_waits t_miles t_loads t_bestRound t_bestPlace t_bestAdds t_regret t_z t_s t_text t_read)) (hl : lv_has ls 5 [(0, .ref a_t), (1, .int x1)]), W p l e rm_X8_read s m args below meth c H locs 0 0 (QI G below args s A r (w_X8_read G a_t a_t_s a_t_image a_t_mind a_t_aside a_t_text a_t_read a_t_comes a_t_begins a_t_latest a_t_move a_t_sort a_t_items a_t_cell a_t_carried t_isKept t_work t_kind z_t_letters z_t_at z_t_fault t_back t_waits t_miles t_loads t_bestRound t_bestPlace t_bestAdds t_regret t_z z_t_s t_text z_t_read)) (F0 m 12 ls []) := by
  intro n
  induction n with
  | zero =>
    intro x1 t_read t_at t_fault  H locs ls hf
    cases hf
  | succ n ih =>
    intro x1 t_read t_at t_fault  H locs ls hf S hl
    have hf : b_X8_read_12 t_s t_text t_letters (lp (fun k x => b_X8_read_12 t_s t_text t_letters k x.1 x.2.1 x.2.2.1 x.2.2.2) n) x1 t_read t_at t_fault = some (r, z_t_s, z_t_read, z_t_letters, z_t_at, z_t_fault) := hf
    exact k_X8_read_12 C t_isKept t_work t_kind t_letters t_at t_fault t_back t_waits t_miles t_loads t_bestRound t_bestPlace t_bestAdds t_regret t_z t_s t_text t_read x1  (lp (fun k x => b_X8_read_12 t_s t_text t_letters k x.1 x.2.1 x.2.2.1 x.2.2.2) n) (fun x1' t_read' t_at' t_fault'  h S hl => ih x1' t_read' t_at' t_fault'  h S hl) hf S hl
set_option maxRecDepth 100000 in
set_option maxHeartbeats 4000000 in
theorem c_X8_read (l : Launch) (G : GE) (a_t a_t_s a_t_image a_t_mind a_t_aside a_t_text a_t_read a_t_comes a_t_begins a_t_latest a_t_move a_t_sort a_t_items a_t_cell a_t_carried : Nat) (t_isKept : Int32) (t_work : Int32) (t_kind : Int32) (t_letters : Int32) (t_at : Int32) (t_fault : Int32) (t_back : Int32) (t_waits : Int32) (t_miles : Int32) (t_loads : Int32) (t_bestRound : Int32) (t_bestPlace : Int32) (t_bestAdds : Int32) (t_regret : Int32) (t_z : Int32) (t_s : Nat → Int32) (t_text : Nat → Int32) (t_read : Nat → Int32) (r : Int32) (z_t_s : Nat → Int32) (z_t_read : Nat → Int32) (z_t_letters : Int32) (z_t_at : Int32) (z_t_fault : Int32) (hf : f_X8_read t_s t_text t_read t_letters = some (r, z_t_s, z_t_read, z_t_letters, z_t_at, z_t_fault)) : CI l G yX8_read kw_X8_read rm_X8_read [.ref a_t] (w_X8_read G a_t a_t_s a_t_image a_t_mind a_t_aside a_t_text a_t_read a_t_comes a_t_begins a_t_latest a_t_move a_t_sort a_t_items a_t_cell a_t_carried t_isKept t_work t_kind t_letters t_at t_fault t_back t_waits t_miles t_loads t_bestRound t_bestPlace t_bestAdds t_regret t_z t_s t_text t_read) r (w_X8_read G a_t a_t_s a_t_image a_t_mind a_t_aside a_t_text a_t_read a_t_comes a_t_begins a_t_latest a_t_move a_t_sort a_t_items a_t_cell a_t_carried t_isKept t_work t_kind z_t_letters z_t_at z_t_fault t_back t_waits t_miles t_loads t_bestRound t_bestPlace t_bestAdds t_regret t_z z_t_s t_text z_t_read) := by
  refine en_I (cc := cX8_read) (maxL := 5) (ret := (some .int)) (by decide +kernel) (Nat.le_of_ble_eq_true rfl) ?_
  intro p e s m args below meth c A ls C S hl
  have hl : lv_has ls 5 [(0, .ref a_t)] := hl
  have C : Cx p s m args meth c cX8_read (some .int) 5 RX8 G A := C
  unfold f_X8_read at hf
  have hx := C.1
  have hb := C.2.1
  have hown := C.2.2.2.2.1
  have hts := C.2.2.2.2.2.1
  have hN := C.2.2.2.2.2.2.2.2.2.2
  refine lv_aload_n (pc := 0) hx hb dX8_read_0 rfl (lv_at hl 0 rfl) ?_
  refine lv_iconst (pc := 1) hx hb dX8_read_1 ic_0 ?_
  refine x_put (pc := 2) (ci := 8) (T := TX8) (ws' := (w_X8_read G a_t a_t_s a_t_image a_t_mind a_t_aside a_t_text a_t_read a_t_comes a_t_begins a_t_latest a_t_move a_t_sort a_t_items a_t_cell a_t_carried t_isKept t_work t_kind t_letters (0 : Int32) t_fault t_back t_waits t_miles t_loads t_bestRound t_bestPlace t_bestAdds t_regret t_z t_s t_text t_read)) C S tyX8 tyX8_ok nmX8 0 rfl rfl inlX8 10 (by decide) rfl qf_8_127 rfl rfl rfl rfl (Nat.le_of_ble_eq_true rfl) rfl dX8_read_2 (fun H locs S => ?_)
  refine lv_aload_n (pc := 5) hx hb dX8_read_5 rfl (lv_at hl 0 rfl) ?_
  refine lv_iconst (pc := 6) hx hb dX8_read_6 ic_m1 ?_
  refine x_put (pc := 7) (ci := 8) (T := TX8) (ws' := (w_X8_read G a_t a_t_s a_t_image a_t_mind a_t_aside a_t_text a_t_read a_t_comes a_t_begins a_t_latest a_t_move a_t_sort a_t_items a_t_cell a_t_carried t_isKept t_work t_kind t_letters (0 : Int32) (-1 : Int32) t_back t_waits t_miles t_loads t_bestRound t_bestPlace t_bestAdds t_regret t_z t_s t_text t_read)) C S tyX8 tyX8_ok nmX8 0 rfl rfl inlX8 11 (by decide) rfl qf_8_124 rfl rfl rfl rfl (Nat.le_of_ble_eq_true rfl) rfl dX8_read_7 (fun H locs S => ?_)
  refine lv_iconst (pc := 10) hx hb dX8_read_10 ic_0 ?_
  refine lv_istore_n (pc := 11) (lv' := [(1, .int (0 : Int32)), (0, .ref a_t)]) hx hb dX8_read_11 rfl hl (by decide) rfl (fun ls hl => ?_)
  exact h_X8_read_12 C (t_isKept) (t_work) (t_kind) (t_letters) (t_back) (t_waits) (t_miles) (t_loads) (t_bestRound) (t_bestPlace) (t_bestAdds) (t_regret) (t_z) (t_s) (t_text) fu ((0 : Int32)) (t_read) ((0 : Int32)) ((-1 : Int32)) hf S (lv_sub hl [1, 0] rfl)
end

abbrev rm_X8_tight : Room := { frames := 5, cells := 0, slots := 0, locals := 124 }
abbrev kw_X8_tight : Cond := .code yX8_tight cX8_tight 6 (some .int)
abbrev w_X8_tight (G : GE) (a_t a_t_s a_t_image a_t_mind a_t_aside a_t_text a_t_read a_t_comes a_t_begins a_t_latest a_t_move a_t_sort a_t_items a_t_cell a_t_carried : Nat) (t_isKept : Int32) (t_work : Int32) (t_kind : Int32) (t_letters : Int32) (t_at : Int32) (t_fault : Int32) (t_back : Int32) (t_waits : Int32) (t_miles : Int32) (t_loads : Int32) (t_bestRound : Int32) (t_bestPlace : Int32) (t_bestAdds : Int32) (t_regret : Int32) (t_z : Int32) (t_s : Nat → Int32) (t_comes : Nat → Int32) (t_begins : Nat → Int32) (t_latest : Nat → Int32) : va_W := [(a_t, ob 8 [.ref a_t_s, .ref a_t_image, .ref a_t_mind, .ref a_t_aside, .int t_isKept, .int t_work, .int t_kind, .ref a_t_text, .ref a_t_read, .int t_letters, .int t_at, .int t_fault, .ref a_t_comes, .ref a_t_begins, .ref a_t_latest, .int t_back, .int t_waits, .int t_miles, .int t_loads, .int t_bestRound, .int t_bestPlace, .int t_bestAdds, .int t_regret, .ref a_t_move, .ref a_t_sort, .ref a_t_items, .ref a_t_cell, .ref a_t_carried, .int t_z]), (a_t_s, aI G 258 t_s), (a_t_comes, aI G 16 t_comes), (a_t_begins, aI G 16 t_begins), (a_t_latest, aI G 16 t_latest)]
theorem u_X8_tight_X8_latest_160 {s : State} {args : Array Value} (hts : ∀ w ∈ WU, w.before args s = true) : CallW rm_X8_tight s args RX8 RX8 160 yX8_latest cX8_latest 6 none (kw_X8_latest :: WU) rm_X8_latest 0 0 1 := cwV 1 hts (gV qm_8_160 qi_X8_latest ql_X8_latest qn_8 qc_X8_latest) rfl rfl rfl (by decide +kernel) ⟨Nat.le_of_ble_eq_true rfl, Nat.le_of_ble_eq_true rfl⟩
theorem u_X8_tight_X8_roundAt_59 {s : State} {args : Array Value} (hts : ∀ w ∈ WU, w.before args s = true) : CallW rm_X8_tight s args RX8 RX8 59 yX8_roundAt cX8_roundAt 3 (some .int) (kw_X8_roundAt :: WU) rm_X8_roundAt 0 0 2 := cwV 2 hts (gV qm_8_59 qi_X8_roundAt ql_X8_roundAt qn_8 qc_X8_roundAt) rfl rfl rfl (by decide +kernel) ⟨Nat.le_of_ble_eq_true rfl, Nat.le_of_ble_eq_true rfl⟩
theorem u_X8_tight_X8_inRow_63 {s : State} {args : Array Value} (hts : ∀ w ∈ WU, w.before args s = true) : CallW rm_X8_tight s args RX8 RX8 63 yX8_inRow cX8_inRow 3 (some .int) (kw_X8_inRow :: WU) rm_X8_inRow 0 0 2 := cwV 2 hts (gV qm_8_63 qi_X8_inRow ql_X8_inRow qn_8 qc_X8_inRow) rfl rfl rfl (by decide +kernel) ⟨Nat.le_of_ble_eq_true rfl, Nat.le_of_ble_eq_true rfl⟩
section
variable {p : Program} {l : Launch} {e : Env} {s : State} {m : MethodId} {args : Array Value} {below : List Frame} {meth : Method} {c : Code} {A : Nat → Prop} {G : GE} {a_t a_t_s a_t_image a_t_mind a_t_aside a_t_text a_t_read a_t_comes a_t_begins a_t_latest a_t_move a_t_sort a_t_items a_t_cell a_t_carried : Nat} {r : Int32} {z_t_comes : Nat → Int32} {z_t_begins : Nat → Int32} {z_t_latest : Nat → Int32} {z_t_back : Int32} {z_t_waits : Int32} {z_t_loads : Int32}
set_option maxRecDepth 100000 in
set_option maxHeartbeats 4000000 in
theorem k_X8_tight_54 (C : Cx p s m args meth c cX8_tight (some .int) 6 RX8 G A) (t_isKept : Int32) (t_work : Int32) (t_kind : Int32) (t_letters : Int32) (t_at : Int32) (t_fault : Int32) (t_back : Int32) (t_waits : Int32) (t_miles : Int32) (t_loads : Int32) (t_bestRound : Int32) (t_bestPlace : Int32) (t_bestAdds : Int32) (t_regret : Int32) (t_z : Int32) (t_s : Nat → Int32) (t_comes : Nat → Int32) (t_begins : Nat → Int32) (t_latest : Nat → Int32) (x1 : Int32) (x4 : Int32) (x5 : Int32) (k13 : Int32 × Int32 × Int32 → Option (Int32 × (Nat → Int32) × (Nat → Int32) × (Nat → Int32) × Int32 × Int32 × Int32)) (hk13 : ∀ {H : Heap} {locs : List Loc} {ls : Array Slot} (x2' : Int32) (x3' : Int32) (x4' : Int32), k13 (x2', x3', x4') = some (r, z_t_comes, z_t_begins, z_t_latest, z_t_back, z_t_waits, z_t_loads) → St G A s.heap H locs (w_X8_tight G a_t a_t_s a_t_image a_t_mind a_t_aside a_t_text a_t_read a_t_comes a_t_begins a_t_latest a_t_move a_t_sort a_t_items a_t_cell a_t_carried t_isKept t_work t_kind t_letters t_at t_fault t_back t_waits t_miles t_loads t_bestRound t_bestPlace t_bestAdds t_regret t_z t_s t_comes t_begins t_latest) → lv_has ls 6 [(0, .ref a_t), (1, .int x1), (2, .int x2'), (3, .int x3'), (4, .int x4')] → W p l e rm_X8_tight s m args below meth c H locs 0 0 (QI G below args s A r (w_X8_tight G a_t a_t_s a_t_image a_t_mind a_t_aside a_t_text a_t_read a_t_comes a_t_begins a_t_latest a_t_move a_t_sort a_t_items a_t_cell a_t_carried t_isKept t_work t_kind t_letters t_at t_fault z_t_back z_t_waits t_miles z_t_loads t_bestRound t_bestPlace t_bestAdds t_regret t_z t_s z_t_comes z_t_begins z_t_latest)) (F0 m 13 ls [])) {H : Heap} {locs : List Loc} {ls : Array Slot} (hf : b_X8_tight_54 k13 x1 x4 x5 t_s t_comes t_begins t_latest t_back t_waits t_loads = some (r, z_t_comes, z_t_begins, z_t_latest, z_t_back, z_t_waits, z_t_loads)) (S : St G A s.heap H locs (w_X8_tight G a_t a_t_s a_t_image a_t_mind a_t_aside a_t_text a_t_read a_t_comes a_t_begins a_t_latest a_t_move a_t_sort a_t_items a_t_cell a_t_carried t_isKept t_work t_kind t_letters t_at t_fault t_back t_waits t_miles t_loads t_bestRound t_bestPlace t_bestAdds t_regret t_z t_s t_comes t_begins t_latest)) (hl : lv_has ls 6 [(0, .ref a_t), (1, .int x1), (4, .int x4), (5, .int x5)]) : W p l e rm_X8_tight s m args below meth c H locs 0 0 (QI G below args s A r (w_X8_tight G a_t a_t_s a_t_image a_t_mind a_t_aside a_t_text a_t_read a_t_comes a_t_begins a_t_latest a_t_move a_t_sort a_t_items a_t_cell a_t_carried t_isKept t_work t_kind t_letters t_at t_fault z_t_back z_t_waits t_miles z_t_loads t_bestRound t_bestPlace t_bestAdds t_regret t_z t_s z_t_comes z_t_begins z_t_latest)) (F0 m 54 ls []) := by
  unfold b_X8_tight_54 at hf
  have hx := C.1
  have hb := C.2.1
  have hown := C.2.2.2.2.1
  have hts := C.2.2.2.2.2.1
  have hN := C.2.2.2.2.2.2.2.2.2.2
  refine lv_aload_n (pc := 54) hx hb dX8_tight_54 rfl (lv_at hl 0 rfl) ?_
  refine lv_iload_n (pc := 55) hx hb dX8_tight_55 rfl (lv_at hl 1 rfl) ?_
  refine lv_iload (pc := 56) hx hb dX8_tight_56 (lv_at hl 2 rfl) ?_
  obtain ⟨r1, hq1, hf⟩ := bd_e hf
  refine x_vI (pc := 58) (As := [.int x1, .int x4]) (rest := []) (isC := [0, 1]) (ws' := (w_X8_tight G a_t a_t_s a_t_image a_t_mind a_t_aside a_t_text a_t_read a_t_comes a_t_begins a_t_latest a_t_move a_t_sort a_t_items a_t_cell a_t_carried t_isKept t_work t_kind t_letters t_at t_fault t_back t_waits t_miles t_loads t_bestRound t_bestPlace t_bestAdds t_regret t_z t_s t_comes t_begins t_latest)) C S (c_X8_inRow l G a_t a_t_s a_t_image a_t_mind a_t_aside a_t_text a_t_read a_t_comes a_t_begins a_t_latest a_t_move a_t_sort a_t_items a_t_cell a_t_carried t_isKept t_work t_kind t_letters t_at t_fault t_back t_waits t_miles t_loads t_bestRound t_bestPlace t_bestAdds t_regret t_z t_s x1 x4 r1 hq1) (u_X8_tight_X8_inRow_63 hts) (ci := 8) rfl 0 rfl rfl (by decide +kernel) [some 0, some 1, none, none, none] (by decide +kernel) rfl rfl rfl hl.1 rfl (Nat.le_of_ble_eq_true rfl) dX8_tight_58 (fun H locs S => ?_)
  refine lv_istore_n (pc := 61) (lv' := [(2, .int r1), (0, .ref a_t), (1, .int x1), (4, .int x4), (5, .int x5)]) hx hb dX8_tight_61 rfl hl (by decide) rfl (fun ls hl => ?_)
  refine lv_iload (pc := 62) hx hb dX8_tight_62 (lv_at hl 4 rfl) ?_
  refine lv_istore_n (pc := 64) (lv' := [(3, .int x5), (2, .int r1), (0, .ref a_t), (1, .int x1), (4, .int x4), (5, .int x5)]) hx hb dX8_tight_64 rfl hl (by decide) rfl (fun ls hl => ?_)
  refine lv_iinc (pc := 65) (v := (x4 + (1 : Int32))) (lv' := [(4, .int (x4 + (1 : Int32))), (3, .int x5), (2, .int r1), (0, .ref a_t), (1, .int x1), (5, .int x5)]) hx hb dX8_tight_65 hl (k := 4) rfl (congrArg (fun z => x4 + z) ic_1) (by decide) rfl (fun ls hl => ?_)
  refine lv_goto (tgt := 13) (pc := 68) hx hb dX8_tight_68 (by decide) ?_
  exact hk13 (r1) (x5) ((x4 + (1 : Int32)))  hf S (lv_sub hl [3, 4, 2, 1, 0] rfl)
set_option maxRecDepth 100000 in
set_option maxHeartbeats 4000000 in
theorem k_X8_tight_13 (C : Cx p s m args meth c cX8_tight (some .int) 6 RX8 G A) (t_isKept : Int32) (t_work : Int32) (t_kind : Int32) (t_letters : Int32) (t_at : Int32) (t_fault : Int32) (t_back : Int32) (t_waits : Int32) (t_miles : Int32) (t_loads : Int32) (t_bestRound : Int32) (t_bestPlace : Int32) (t_bestAdds : Int32) (t_regret : Int32) (t_z : Int32) (t_s : Nat → Int32) (t_comes : Nat → Int32) (t_begins : Nat → Int32) (t_latest : Nat → Int32) (x1 : Int32) (x2 : Int32) (x3 : Int32) (x4 : Int32) (k13 : Int32 × Int32 × Int32 → Option (Int32 × (Nat → Int32) × (Nat → Int32) × (Nat → Int32) × Int32 × Int32 × Int32)) (hk13 : ∀ {H : Heap} {locs : List Loc} {ls : Array Slot} (x2' : Int32) (x3' : Int32) (x4' : Int32), k13 (x2', x3', x4') = some (r, z_t_comes, z_t_begins, z_t_latest, z_t_back, z_t_waits, z_t_loads) → St G A s.heap H locs (w_X8_tight G a_t a_t_s a_t_image a_t_mind a_t_aside a_t_text a_t_read a_t_comes a_t_begins a_t_latest a_t_move a_t_sort a_t_items a_t_cell a_t_carried t_isKept t_work t_kind t_letters t_at t_fault t_back t_waits t_miles t_loads t_bestRound t_bestPlace t_bestAdds t_regret t_z t_s t_comes t_begins t_latest) → lv_has ls 6 [(0, .ref a_t), (1, .int x1), (2, .int x2'), (3, .int x3'), (4, .int x4')] → W p l e rm_X8_tight s m args below meth c H locs 0 0 (QI G below args s A r (w_X8_tight G a_t a_t_s a_t_image a_t_mind a_t_aside a_t_text a_t_read a_t_comes a_t_begins a_t_latest a_t_move a_t_sort a_t_items a_t_cell a_t_carried t_isKept t_work t_kind t_letters t_at t_fault z_t_back z_t_waits t_miles z_t_loads t_bestRound t_bestPlace t_bestAdds t_regret t_z t_s z_t_comes z_t_begins z_t_latest)) (F0 m 13 ls [])) {H : Heap} {locs : List Loc} {ls : Array Slot} (hf : b_X8_tight_13 x1 t_s t_comes t_begins t_latest t_back t_waits t_loads k13 x2 x3 x4 = some (r, z_t_comes, z_t_begins, z_t_latest, z_t_back, z_t_waits, z_t_loads)) (S : St G A s.heap H locs (w_X8_tight G a_t a_t_s a_t_image a_t_mind a_t_aside a_t_text a_t_read a_t_comes a_t_begins a_t_latest a_t_move a_t_sort a_t_items a_t_cell a_t_carried t_isKept t_work t_kind t_letters t_at t_fault t_back t_waits t_miles t_loads t_bestRound t_bestPlace t_bestAdds t_regret t_z t_s t_comes t_begins t_latest)) (hl : lv_has ls 6 [(0, .ref a_t), (1, .int x1), (2, .int x2), (3, .int x3), (4, .int x4)]) : W p l e rm_X8_tight s m args below meth c H locs 0 0 (QI G below args s A r (w_X8_tight G a_t a_t_s a_t_image a_t_mind a_t_aside a_t_text a_t_read a_t_comes a_t_begins a_t_latest a_t_move a_t_sort a_t_items a_t_cell a_t_carried t_isKept t_work t_kind t_letters t_at t_fault z_t_back z_t_waits t_miles z_t_loads t_bestRound t_bestPlace t_bestAdds t_regret t_z t_s z_t_comes z_t_begins z_t_latest)) (F0 m 13 ls []) := by
  unfold b_X8_tight_13 at hf
  have hx := C.1
  have hb := C.2.1
  have hown := C.2.2.2.2.1
  have hts := C.2.2.2.2.2.1
  have hN := C.2.2.2.2.2.2.2.2.2.2
  refine lv_iload (pc := 13) hx hb dX8_tight_13 (lv_at hl 4 rfl) ?_
  refine lv_aload_n (pc := 15) hx hb dX8_tight_15 rfl (lv_at hl 0 rfl) ?_
  refine lv_iload_n (pc := 16) hx hb dX8_tight_16 rfl (lv_at hl 1 rfl) ?_
  refine lv_iconst (pc := 17) hx hb dX8_tight_17 ic_3 ?_
  obtain ⟨r1, hq1, hf⟩ := bd_e hf
  refine x_vI (pc := 18) (As := [.int x1, .int (3 : Int32)]) (rest := [.int x4]) (isC := [0, 1]) (ws' := (w_X8_tight G a_t a_t_s a_t_image a_t_mind a_t_aside a_t_text a_t_read a_t_comes a_t_begins a_t_latest a_t_move a_t_sort a_t_items a_t_cell a_t_carried t_isKept t_work t_kind t_letters t_at t_fault t_back t_waits t_miles t_loads t_bestRound t_bestPlace t_bestAdds t_regret t_z t_s t_comes t_begins t_latest)) C S (c_X8_roundAt l G a_t a_t_s a_t_image a_t_mind a_t_aside a_t_text a_t_read a_t_comes a_t_begins a_t_latest a_t_move a_t_sort a_t_items a_t_cell a_t_carried t_isKept t_work t_kind t_letters t_at t_fault t_back t_waits t_miles t_loads t_bestRound t_bestPlace t_bestAdds t_regret t_z t_s x1 (3 : Int32) r1 hq1) (u_X8_tight_X8_roundAt_59 hts) (ci := 8) rfl 0 rfl rfl (by decide +kernel) [some 0, some 1, none, none, none] (by decide +kernel) rfl rfl rfl hl.1 rfl (Nat.le_of_ble_eq_true rfl) dX8_tight_18 (fun H locs S => ?_)
  refine lv_icmp_ge (tgt := 71) (pc := 21) hx hb dX8_tight_21 (by decide) (fun c2 => ?_) (fun c2 => ?_)
  · have hf := ifp c2 hf
    refine lv_iload_n (pc := 71) hx hb dX8_tight_71 rfl (lv_at hl 2 rfl) ?_
    cases hf
    exact x_iret (pc := 72) C S dX8_tight_72
  · have hf := ifn c2 hf
    refine lv_aload_n (pc := 24) hx hb dX8_tight_24 rfl (lv_at hl 0 rfl) ?_
    refine x_get (pc := 25) (ci := 8) (T := TX8) (v := .ref a_t_latest) C S 0 rfl rfl inlX8 14 (by decide) rfl qf_8_36 rfl dX8_tight_25 ?_
    refine lv_iload (pc := 28) hx hb dX8_tight_28 (lv_at hl 4 rfl) ?_
    obtain ⟨hv3, hf⟩ := gI_e hf
    refine x_iald (pc := 30) C S 4 rfl hv3 dX8_tight_30 ?_
    refine lv_aload_n (pc := 31) hx hb dX8_tight_31 rfl (lv_at hl 0 rfl) ?_
    refine x_get (pc := 32) (ci := 8) (T := TX8) (v := .ref a_t_begins) C S 0 rfl rfl inlX8 13 (by decide) rfl qf_8_33 rfl dX8_tight_32 ?_
    refine lv_iload (pc := 35) hx hb dX8_tight_35 (lv_at hl 4 rfl) ?_
    refine x_iald (pc := 37) C S 3 rfl hv3 dX8_tight_37 ?_
    refine lv_isub (pc := 38) hx hb dX8_tight_38 ?_
    refine lv_istore (pc := 39) (lv' := [(5, .int ((t_latest x4.toNatClampNeg) - (t_begins x4.toNatClampNeg))), (0, .ref a_t), (1, .int x1), (2, .int x2), (3, .int x3), (4, .int x4)]) hx hb dX8_tight_39 hl (by decide) rfl (fun ls hl => ?_)
    refine lv_iload_n (pc := 41) hx hb dX8_tight_41 rfl (lv_at hl 3 rfl) ?_
    refine lv_if_lt (tgt := 54) (pc := 42) hx hb dX8_tight_42 (by decide) (fun c4 => ?_) (fun c4 => ?_)
    · have hf := ifp c4 hf
      exact k_X8_tight_54 C (t_isKept) (t_work) (t_kind) (t_letters) (t_at) (t_fault) (t_back) (t_waits) (t_miles) (t_loads) (t_bestRound) (t_bestPlace) (t_bestAdds) (t_regret) (t_z) (t_s) (t_comes) (t_begins) (t_latest) (x1) (x4) (((t_latest x4.toNatClampNeg) - (t_begins x4.toNatClampNeg))) k13 hk13 hf S (lv_sub hl [1, 2, 5, 0] rfl)
    · have hf := ifn c4 hf
      refine lv_iload (pc := 45) hx hb dX8_tight_45 (lv_at hl 0 rfl) ?_
      refine lv_iload_n (pc := 47) hx hb dX8_tight_47 rfl (lv_at hl 4 rfl) ?_
      refine lv_icmp_lt (tgt := 54) (pc := 48) hx hb dX8_tight_48 (by decide) (fun c5 => ?_) (fun c5 => ?_)
      · have hf := ifp c5 hf
        exact k_X8_tight_54 C (t_isKept) (t_work) (t_kind) (t_letters) (t_at) (t_fault) (t_back) (t_waits) (t_miles) (t_loads) (t_bestRound) (t_bestPlace) (t_bestAdds) (t_regret) (t_z) (t_s) (t_comes) (t_begins) (t_latest) (x1) (x4) (((t_latest x4.toNatClampNeg) - (t_begins x4.toNatClampNeg))) k13 hk13 hf S (lv_sub hl [1, 2, 5, 0] rfl)
      · have hf := ifn c5 hf
        refine lv_goto (tgt := 65) (pc := 51) hx hb dX8_tight_51 (by decide) ?_
        refine lv_iinc (pc := 65) (v := (x4 + (1 : Int32))) (lv' := [(4, .int (x4 + (1 : Int32))), (5, .int ((t_latest x4.toNatClampNeg) - (t_begins x4.toNatClampNeg))), (0, .ref a_t), (1, .int x1), (2, .int x2), (3, .int x3)]) hx hb dX8_tight_65 hl (k := 5) rfl (congrArg (fun z => x4 + z) ic_1) (by decide) rfl (fun ls hl => ?_)
        refine lv_goto (tgt := 13) (pc := 68) hx hb dX8_tight_68 (by decide) ?_
        exact hk13 (x2) (x3) ((x4 + (1 : Int32)))  hf S (lv_sub hl [2, 3, 4, 5, 0] rfl)
set_option maxRecDepth 100000 in
set_option maxHeartbeats 4000000 in
theorem h_X8_tight_13 (C : Cx p s m args meth c cX8_tight (some .int) 6 RX8 G A) (t_isKept : Int32) (t_work : Int32) (t_kind : Int32) (t_letters : Int32) (t_at : Int32) (t_fault : Int32) (t_back : Int32) (t_waits : Int32) (t_miles : Int32) (t_loads : Int32) (t_bestRound : Int32) (t_bestPlace : Int32) (t_bestAdds : Int32) (t_regret : Int32) (t_z : Int32) (t_s : Nat → Int32) (t_comes : Nat → Int32) (t_begins : Nat → Int32) (t_latest : Nat → Int32) (x1 : Int32) : ∀ (n : Nat) (x2 : Int32) (x3 : Int32) (x4 : Int32) {H : Heap} {locs : List Loc} {ls : Array Slot} (hf : lp (fun k x => b_X8_tight_13 x1 t_s t_comes t_begins t_latest t_back t_waits t_loads k x.1 x.2.1 x.2.2) n (x2, x3, x4) = some (r, z_t_comes, z_t_begins, z_t_latest, z_t_back, z_t_waits, z_t_loads)) (S : St G A s.heap H locs (w_X8_tight G a_t a_t_s a_t_image a_t_mind a_t_aside a_t_text a_t_read a_t_comes a_t_begins a_t_latest a_t_move a_t_sort a_t_items a_t_cell a_t_carried t_isKept t_work t_kind t_letters t_at t_fault t_back t_waits t_miles t_loads t_bestRound t_bestPlace t_bestAdds t_regret t_z t_s t_comes t_begins t_latest)) (hl : lv_has ls 6 [(0, .ref a_t), (1, .int x1), (2, .int x2), (3, .int x3), (4, .int x4)]), W p l e rm_X8_tight s m args below meth c H locs 0 0 (QI G below args s A r (w_X8_tight G a_t a_t_s a_t_image a_t_mind a_t_aside a_t_text a_t_read a_t_comes a_t_begins a_t_latest a_t_move a_t_sort a_t_items a_t_cell a_t_carried t_isKept t_work t_kind t_letters t_at t_fault z_t_back z_t_waits t_miles z_t_loads t_bestRound t_bestPlace t_bestAdds t_regret t_z t_s z_t_comes z_t_begins z_t_latest)) (F0 m 13 ls []) := by
  intro n
  induction n with
  | zero =>
    intro x2 x3 x4  H locs ls hf
    cases hf
  | succ n ih =>
    intro x2 x3 x4  H locs ls hf S hl
    have hf : b_X8_tight_13 x1 t_s t_comes t_begins t_latest t_back t_waits t_loads (lp (fun k x => b_X8_tight_13 x1 t_s t_comes t_begins t_latest t_back t_waits t_loads k x.1 x.2.1 x.2.2) n) x2 x3 x4 = some (r, z_t_comes, z_t_begins, z_t_latest, z_t_back, z_t_waits, z_t_loads) := hf
    exact k_X8_tight_13 C t_isKept t_work t_kind t_letters t_at t_fault t_back t_waits t_miles t_loads t_bestRound t_bestPlace t_bestAdds t_regret t_z t_s t_comes t_begins t_latest x1 x2 x3 x4  (lp (fun k x => b_X8_tight_13 x1 t_s t_comes t_begins t_latest t_back t_waits t_loads k x.1 x.2.1 x.2.2) n) (fun x2' x3' x4'  h S hl => ih x2' x3' x4'  h S hl) hf S hl
set_option maxRecDepth 100000 in
set_option maxHeartbeats 4000000 in
theorem c_X8_tight (l : Launch) (G : GE) (a_t a_t_s a_t_image a_t_mind a_t_aside a_t_text a_t_read a_t_comes a_t_begins a_t_latest a_t_move a_t_sort a_t_items a_t_cell a_t_carried : Nat) (t_isKept : Int32) (t_work : Int32) (t_kind : Int32) (t_letters : Int32) (t_at : Int32) (t_fault : Int32) (t_back : Int32) (t_waits : Int32) (t_miles : Int32) (t_loads : Int32) (t_bestRound : Int32) (t_bestPlace : Int32) (t_bestAdds : Int32) (t_regret : Int32) (t_z : Int32) (t_s : Nat → Int32) (t_comes : Nat → Int32) (t_begins : Nat → Int32) (t_latest : Nat → Int32) (x1 : Int32) (r : Int32) (z_t_comes : Nat → Int32) (z_t_begins : Nat → Int32) (z_t_latest : Nat → Int32) (z_t_back : Int32) (z_t_waits : Int32) (z_t_loads : Int32) (hf : f_X8_tight t_s t_comes t_begins t_latest x1 = some (r, z_t_comes, z_t_begins, z_t_latest, z_t_back, z_t_waits, z_t_loads)) : CI l G yX8_tight kw_X8_tight rm_X8_tight [.ref a_t, .int x1] (w_X8_tight G a_t a_t_s a_t_image a_t_mind a_t_aside a_t_text a_t_read a_t_comes a_t_begins a_t_latest a_t_move a_t_sort a_t_items a_t_cell a_t_carried t_isKept t_work t_kind t_letters t_at t_fault t_back t_waits t_miles t_loads t_bestRound t_bestPlace t_bestAdds t_regret t_z t_s t_comes t_begins t_latest) r (w_X8_tight G a_t a_t_s a_t_image a_t_mind a_t_aside a_t_text a_t_read a_t_comes a_t_begins a_t_latest a_t_move a_t_sort a_t_items a_t_cell a_t_carried t_isKept t_work t_kind t_letters t_at t_fault z_t_back z_t_waits t_miles z_t_loads t_bestRound t_bestPlace t_bestAdds t_regret t_z t_s z_t_comes z_t_begins z_t_latest) := by
  refine en_I (cc := cX8_tight) (maxL := 6) (ret := (some .int)) (by decide +kernel) (Nat.le_of_ble_eq_true rfl) ?_
  intro p e s m args below meth c A ls C S hl
  have hl : lv_has ls 6 [(0, .ref a_t), (1, .int x1)] := hl
  have C : Cx p s m args meth c cX8_tight (some .int) 6 RX8 G A := C
  unfold f_X8_tight at hf
  have hx := C.1
  have hb := C.2.1
  have hown := C.2.2.2.2.1
  have hts := C.2.2.2.2.2.1
  have hN := C.2.2.2.2.2.2.2.2.2.2
  refine lv_bipush (pc := 0) hx hb dX8_tight_0 bc_m5 ?_
  refine lv_istore_n (pc := 2) (lv' := [(2, .int (-5 : Int32)), (0, .ref a_t), (1, .int x1)]) hx hb dX8_tight_2 rfl hl (by decide) rfl (fun ls hl => ?_)
  refine lv_iconst (pc := 3) hx hb dX8_tight_3 ic_0 ?_
  refine lv_istore_n (pc := 4) (lv' := [(3, .int (0 : Int32)), (2, .int (-5 : Int32)), (0, .ref a_t), (1, .int x1)]) hx hb dX8_tight_4 rfl hl (by decide) rfl (fun ls hl => ?_)
  refine lv_aload_n (pc := 5) hx hb dX8_tight_5 rfl (lv_at hl 2 rfl) ?_
  refine lv_iload_n (pc := 6) hx hb dX8_tight_6 rfl (lv_at hl 3 rfl) ?_
  obtain ⟨⟨o1_t_comes, o1_t_begins, o1_t_latest, o1_t_back, o1_t_waits, o1_t_loads⟩, hq1, hf⟩ := bd_e hf
  refine x_vV (pc := 7) (As := [.int x1]) (rest := []) (isC := [0, 1, 2, 3, 4]) (ws' := (w_X8_tight G a_t a_t_s a_t_image a_t_mind a_t_aside a_t_text a_t_read a_t_comes a_t_begins a_t_latest a_t_move a_t_sort a_t_items a_t_cell a_t_carried t_isKept t_work t_kind t_letters t_at t_fault o1_t_back o1_t_waits t_miles o1_t_loads t_bestRound t_bestPlace t_bestAdds t_regret t_z t_s o1_t_comes o1_t_begins o1_t_latest)) C S (c_X8_latest l G a_t a_t_s a_t_image a_t_mind a_t_aside a_t_text a_t_read a_t_comes a_t_begins a_t_latest a_t_move a_t_sort a_t_items a_t_cell a_t_carried t_isKept t_work t_kind t_letters t_at t_fault t_back t_waits t_miles t_loads t_bestRound t_bestPlace t_bestAdds t_regret t_z t_s t_comes t_begins t_latest x1 o1_t_comes o1_t_begins o1_t_latest o1_t_back o1_t_waits o1_t_loads hq1) (u_X8_tight_X8_latest_160 hts) (ci := 8) rfl 0 rfl rfl (by decide +kernel) [some 0, some 1, some 2, some 3, some 4] (by decide +kernel) rfl rfl rfl hl.1 rfl (Nat.le_of_ble_eq_true rfl) dX8_tight_7 (fun H locs S => ?_)
  refine lv_iconst (pc := 10) hx hb dX8_tight_10 ic_0 ?_
  refine lv_istore (pc := 11) (lv' := [(4, .int (0 : Int32)), (3, .int (0 : Int32)), (2, .int (-5 : Int32)), (0, .ref a_t), (1, .int x1)]) hx hb dX8_tight_11 hl (by decide) rfl (fun ls hl => ?_)
  exact h_X8_tight_13 C (t_isKept) (t_work) (t_kind) (t_letters) (t_at) (t_fault) (o1_t_back) (o1_t_waits) (t_miles) (o1_t_loads) (t_bestRound) (t_bestPlace) (t_bestAdds) (t_regret) (t_z) (t_s) (o1_t_comes) (o1_t_begins) (o1_t_latest) (x1) fu ((-5 : Int32)) ((0 : Int32)) ((0 : Int32)) hf S (lv_sub hl [3, 4, 2, 1, 0] rfl)
end

abbrev rm_X8_round : Room := { frames := 6, cells := 0, slots := 0, locals := 149 }
abbrev kw_X8_round : Cond := .code yX8_round cX8_round 3 (some .int)
abbrev w_X8_round (G : GE) (a_t a_t_s a_t_image a_t_mind a_t_aside a_t_text a_t_read a_t_comes a_t_begins a_t_latest a_t_move a_t_sort a_t_items a_t_cell a_t_carried : Nat) (t_isKept : Int32) (t_work : Int32) (t_kind : Int32) (t_letters : Int32) (t_at : Int32) (t_fault : Int32) (t_back : Int32) (t_waits : Int32) (t_miles : Int32) (t_loads : Int32) (t_bestRound : Int32) (t_bestPlace : Int32) (t_bestAdds : Int32) (t_regret : Int32) (t_z : Int32) (t_s : Nat → Int32) (t_comes : Nat → Int32) (t_begins : Nat → Int32) (t_latest : Nat → Int32) : va_W := [(a_t, ob 8 [.ref a_t_s, .ref a_t_image, .ref a_t_mind, .ref a_t_aside, .int t_isKept, .int t_work, .int t_kind, .ref a_t_text, .ref a_t_read, .int t_letters, .int t_at, .int t_fault, .ref a_t_comes, .ref a_t_begins, .ref a_t_latest, .int t_back, .int t_waits, .int t_miles, .int t_loads, .int t_bestRound, .int t_bestPlace, .int t_bestAdds, .int t_regret, .ref a_t_move, .ref a_t_sort, .ref a_t_items, .ref a_t_cell, .ref a_t_carried, .int t_z]), (a_t_s, aI G 258 t_s), (a_t_comes, aI G 16 t_comes), (a_t_begins, aI G 16 t_begins), (a_t_latest, aI G 16 t_latest)]
theorem u_X8_round_X8_isRound_162 {s : State} {args : Array Value} (hts : ∀ w ∈ WU, w.before args s = true) : CallB rm_X8_round s args RX8 162 yX8_isRound cX8_isRound 1 (some .boolean) (kw_X8_isRound :: WU) rm_X8_isRound 0 0 1 ∧ (Cond.static yX8_isRound).before args s = true := va_cwS 1 hts (gS qm_8_162 qs_X8_isRound qn_8 qc_X8_isRound) rfl rfl rfl (by decide +kernel) ⟨Nat.le_of_ble_eq_true rfl, Nat.le_of_ble_eq_true rfl⟩
theorem u_X8_round_X8_isIn_55 {s : State} {args : Array Value} (hts : ∀ w ∈ WU, w.before args s = true) : CallB rm_X8_round s args RX8 55 yX8_isIn cX8_isIn 3 (some .boolean) (kw_X8_isIn :: WU) rm_X8_isIn 0 0 3 ∧ (Cond.static yX8_isIn).before args s = true := va_cwS 3 hts (gS qm_8_55 qs_X8_isIn qn_8 qc_X8_isIn) rfl rfl rfl (by decide +kernel) ⟨Nat.le_of_ble_eq_true rfl, Nat.le_of_ble_eq_true rfl⟩
theorem u_X8_round_X8_latest_160 {s : State} {args : Array Value} (hts : ∀ w ∈ WU, w.before args s = true) : CallW rm_X8_round s args RX8 RX8 160 yX8_latest cX8_latest 6 none (kw_X8_latest :: WU) rm_X8_latest 0 0 1 := cwV 1 hts (gV qm_8_160 qi_X8_latest ql_X8_latest qn_8 qc_X8_latest) rfl rfl rfl (by decide +kernel) ⟨Nat.le_of_ble_eq_true rfl, Nat.le_of_ble_eq_true rfl⟩
theorem u_X8_round_X8_roundAt_59 {s : State} {args : Array Value} (hts : ∀ w ∈ WU, w.before args s = true) : CallW rm_X8_round s args RX8 RX8 59 yX8_roundAt cX8_roundAt 3 (some .int) (kw_X8_roundAt :: WU) rm_X8_roundAt 0 0 2 := cwV 2 hts (gV qm_8_59 qi_X8_roundAt ql_X8_roundAt qn_8 qc_X8_roundAt) rfl rfl rfl (by decide +kernel) ⟨Nat.le_of_ble_eq_true rfl, Nat.le_of_ble_eq_true rfl⟩
theorem u_X8_round_X8_tight_239 {s : State} {args : Array Value} (hts : ∀ w ∈ WU, w.before args s = true) : CallW rm_X8_round s args RX8 RX8 239 yX8_tight cX8_tight 6 (some .int) (kw_X8_tight :: WU) rm_X8_tight 0 0 1 := cwV 1 hts (gV qm_8_239 qi_X8_tight ql_X8_tight qn_8 qc_X8_tight) rfl rfl rfl (by decide +kernel) ⟨Nat.le_of_ble_eq_true rfl, Nat.le_of_ble_eq_true rfl⟩
theorem u_X8_round_X8_milesOf_111 {s : State} {args : Array Value} (hts : ∀ w ∈ WU, w.before args s = true) : CallW rm_X8_round s args RX8 RX8 111 yX8_milesOf cX8_milesOf 5 (some .int) (kw_X8_milesOf :: WU) rm_X8_milesOf 0 0 1 := cwV 1 hts (gV qm_8_111 qi_X8_milesOf ql_X8_milesOf qn_8 qc_X8_milesOf) rfl rfl rfl (by decide +kernel) ⟨Nat.le_of_ble_eq_true rfl, Nat.le_of_ble_eq_true rfl⟩
section
variable {p : Program} {l : Launch} {e : Env} {s : State} {m : MethodId} {args : Array Value} {below : List Frame} {meth : Method} {c : Code} {A : Nat → Prop} {G : GE} {a_t a_t_s a_t_image a_t_mind a_t_aside a_t_text a_t_read a_t_comes a_t_begins a_t_latest a_t_move a_t_sort a_t_items a_t_cell a_t_carried : Nat} {r : Int32} {z_t_comes : Nat → Int32} {z_t_begins : Nat → Int32} {z_t_latest : Nat → Int32} {z_t_back : Int32} {z_t_waits : Int32} {z_t_loads : Int32}
set_option maxRecDepth 100000 in
set_option maxHeartbeats 4000000 in
theorem c_X8_round (l : Launch) (G : GE) (a_t a_t_s a_t_image a_t_mind a_t_aside a_t_text a_t_read a_t_comes a_t_begins a_t_latest a_t_move a_t_sort a_t_items a_t_cell a_t_carried : Nat) (t_isKept : Int32) (t_work : Int32) (t_kind : Int32) (t_letters : Int32) (t_at : Int32) (t_fault : Int32) (t_back : Int32) (t_waits : Int32) (t_miles : Int32) (t_loads : Int32) (t_bestRound : Int32) (t_bestPlace : Int32) (t_bestAdds : Int32) (t_regret : Int32) (t_z : Int32) (t_s : Nat → Int32) (t_comes : Nat → Int32) (t_begins : Nat → Int32) (t_latest : Nat → Int32) (x1 : Int32) (x2 : Int32) (r : Int32) (z_t_comes : Nat → Int32) (z_t_begins : Nat → Int32) (z_t_latest : Nat → Int32) (z_t_back : Int32) (z_t_waits : Int32) (z_t_loads : Int32) (hf : f_X8_round t_s t_comes t_begins t_latest t_back t_waits t_loads x1 x2 = some (r, z_t_comes, z_t_begins, z_t_latest, z_t_back, z_t_waits, z_t_loads)) : CI l G yX8_round kw_X8_round rm_X8_round [.ref a_t, .int x1, .int x2] (w_X8_round G a_t a_t_s a_t_image a_t_mind a_t_aside a_t_text a_t_read a_t_comes a_t_begins a_t_latest a_t_move a_t_sort a_t_items a_t_cell a_t_carried t_isKept t_work t_kind t_letters t_at t_fault t_back t_waits t_miles t_loads t_bestRound t_bestPlace t_bestAdds t_regret t_z t_s t_comes t_begins t_latest) r (w_X8_round G a_t a_t_s a_t_image a_t_mind a_t_aside a_t_text a_t_read a_t_comes a_t_begins a_t_latest a_t_move a_t_sort a_t_items a_t_cell a_t_carried t_isKept t_work t_kind t_letters t_at t_fault z_t_back z_t_waits t_miles z_t_loads t_bestRound t_bestPlace t_bestAdds t_regret t_z t_s z_t_comes z_t_begins z_t_latest) := by
  refine en_I (cc := cX8_round) (maxL := 3) (ret := (some .int)) (by decide +kernel) (Nat.le_of_ble_eq_true rfl) ?_
  intro p e s m args below meth c A ls C S hl
  have hl : lv_has ls 3 [(0, .ref a_t), (1, .int x1), (2, .int x2)] := hl
  have C : Cx p s m args meth c cX8_round (some .int) 3 RX8 G A := C
  unfold f_X8_round at hf
  have hx := C.1
  have hb := C.2.1
  have hown := C.2.2.2.2.1
  have hts := C.2.2.2.2.2.1
  have hN := C.2.2.2.2.2.2.2.2.2.2
  refine lv_iload_n (pc := 0) hx hb dX8_round_0 rfl (lv_at hl 1 rfl) ?_
  obtain ⟨r1, hq1, hf⟩ := bd_e hf
  refine x_sI (pc := 1) (As := [.int x1]) (rest := []) (isC := []) (ws' := (w_X8_round G a_t a_t_s a_t_image a_t_mind a_t_aside a_t_text a_t_read a_t_comes a_t_begins a_t_latest a_t_move a_t_sort a_t_items a_t_cell a_t_carried t_isKept t_work t_kind t_letters t_at t_fault t_back t_waits t_miles t_loads t_bestRound t_bestPlace t_bestAdds t_regret t_z t_s t_comes t_begins t_latest)) C S (c_X8_isRound l G x1 r1 hq1) (u_X8_round_X8_isRound_162 hts) rfl (by decide +kernel) [none, none, none, none, none] (by decide +kernel) rfl rfl rfl hl.1 rfl (Nat.le_of_ble_eq_true rfl) dX8_round_1 (fun H locs S => ?_)
  refine lv_if_eq (tgt := 17) (pc := 4) hx hb dX8_round_4 (by decide) (fun c2 => ?_) (fun c2 => ?_)
  · have hf := ifp c2 hf
    refine lv_iconst (pc := 17) hx hb dX8_round_17 ic_m1 ?_
    cases hf
    exact x_iret (pc := 18) C S dX8_round_18
  · have hf := ifn c2 hf
    refine lv_iload_n (pc := 7) hx hb dX8_round_7 rfl (lv_at hl 2 rfl) ?_
    refine lv_iconst (pc := 8) hx hb dX8_round_8 ic_0 ?_
    refine lv_bipush (pc := 9) hx hb dX8_round_9 bc_9 ?_
    obtain ⟨r3, hq3, hf⟩ := bd_e hf
    refine x_sI (pc := 11) (As := [.int x2, .int (0 : Int32), .int (9 : Int32)]) (rest := []) (isC := []) (ws' := (w_X8_round G a_t a_t_s a_t_image a_t_mind a_t_aside a_t_text a_t_read a_t_comes a_t_begins a_t_latest a_t_move a_t_sort a_t_items a_t_cell a_t_carried t_isKept t_work t_kind t_letters t_at t_fault t_back t_waits t_miles t_loads t_bestRound t_bestPlace t_bestAdds t_regret t_z t_s t_comes t_begins t_latest)) C S (c_X8_isIn l G x2 (0 : Int32) (9 : Int32) r3 hq3) (u_X8_round_X8_isIn_55 hts) rfl (by decide +kernel) [none, none, none, none, none] (by decide +kernel) rfl rfl rfl hl.1 rfl (Nat.le_of_ble_eq_true rfl) dX8_round_11 (fun H locs S => ?_)
    refine lv_if_ne (tgt := 19) (pc := 14) hx hb dX8_round_14 (by decide) (fun c4 => ?_) (fun c4 => ?_)
    · have hf := ifn c4 hf
      refine lv_iload_n (pc := 19) hx hb dX8_round_19 rfl (lv_at hl 2 rfl) ?_
      refine lv_iconst (pc := 20) hx hb dX8_round_20 ic_4 ?_
      refine lv_icmp_ge (tgt := 31) (pc := 21) hx hb dX8_round_21 (by decide) (fun c5 => ?_) (fun c5 => ?_)
      · have hf := ifp c5 hf
        refine lv_iload_n (pc := 31) hx hb dX8_round_31 rfl (lv_at hl 2 rfl) ?_
        refine lv_iconst (pc := 32) hx hb dX8_round_32 ic_5 ?_
        refine lv_icmp_ne (tgt := 42) (pc := 33) hx hb dX8_round_33 (by decide) (fun c6 => ?_) (fun c6 => ?_)
        · have hf := ifn c6 hf
          refine lv_iload_n (pc := 42) hx hb dX8_round_42 rfl (lv_at hl 2 rfl) ?_
          refine lv_bipush (pc := 43) hx hb dX8_round_43 bc_8 ?_
          refine lv_icmp_ne (tgt := 54) (pc := 45) hx hb dX8_round_45 (by decide) (fun c7 => ?_) (fun c7 => ?_)
          · have hf := ifn c7 hf
            refine lv_aload_n (pc := 54) hx hb dX8_round_54 rfl (lv_at hl 0 rfl) ?_
            refine lv_iload_n (pc := 55) hx hb dX8_round_55 rfl (lv_at hl 1 rfl) ?_
            obtain ⟨⟨o8_t_comes, o8_t_begins, o8_t_latest, o8_t_back, o8_t_waits, o8_t_loads⟩, hq8, hf⟩ := bd_e hf
            refine x_vV (pc := 56) (As := [.int x1]) (rest := []) (isC := [0, 1, 2, 3, 4]) (ws' := (w_X8_round G a_t a_t_s a_t_image a_t_mind a_t_aside a_t_text a_t_read a_t_comes a_t_begins a_t_latest a_t_move a_t_sort a_t_items a_t_cell a_t_carried t_isKept t_work t_kind t_letters t_at t_fault o8_t_back o8_t_waits t_miles o8_t_loads t_bestRound t_bestPlace t_bestAdds t_regret t_z t_s o8_t_comes o8_t_begins o8_t_latest)) C S (c_X8_latest l G a_t a_t_s a_t_image a_t_mind a_t_aside a_t_text a_t_read a_t_comes a_t_begins a_t_latest a_t_move a_t_sort a_t_items a_t_cell a_t_carried t_isKept t_work t_kind t_letters t_at t_fault t_back t_waits t_miles t_loads t_bestRound t_bestPlace t_bestAdds t_regret t_z t_s t_comes t_begins t_latest x1 o8_t_comes o8_t_begins o8_t_latest o8_t_back o8_t_waits o8_t_loads hq8) (u_X8_round_X8_latest_160 hts) (ci := 8) rfl 0 rfl rfl (by decide +kernel) [some 0, some 1, some 2, some 3, some 4] (by decide +kernel) rfl rfl rfl hl.1 rfl (Nat.le_of_ble_eq_true rfl) dX8_round_56 (fun H locs S => ?_)
            refine lv_iload_n (pc := 59) hx hb dX8_round_59 rfl (lv_at hl 2 rfl) ?_
            refine lv_bipush (pc := 60) hx hb dX8_round_60 bc_9 ?_
            refine lv_icmp_ne (tgt := 93) (pc := 62) hx hb dX8_round_62 (by decide) (fun c9 => ?_) (fun c9 => ?_)
            · have hf := ifn c9 hf
              refine lv_iload_n (pc := 93) hx hb dX8_round_93 rfl (lv_at hl 2 rfl) ?_
              refine lv_iconst (pc := 94) hx hb dX8_round_94 ic_4 ?_
              refine lv_icmp_ne (tgt := 105) (pc := 95) hx hb dX8_round_95 (by decide) (fun c10 => ?_) (fun c10 => ?_)
              · have hf := ifn c10 hf
                refine lv_iload_n (pc := 105) hx hb dX8_round_105 rfl (lv_at hl 2 rfl) ?_
                refine lv_bipush (pc := 106) hx hb dX8_round_106 bc_6 ?_
                refine lv_icmp_ne (tgt := 118) (pc := 108) hx hb dX8_round_108 (by decide) (fun c11 => ?_) (fun c11 => ?_)
                · have hf := ifn c11 hf
                  refine lv_aload_n (pc := 118) hx hb dX8_round_118 rfl (lv_at hl 0 rfl) ?_
                  refine x_get (pc := 119) (ci := 8) (T := TX8) (v := .int o8_t_waits) C S 0 rfl rfl inlX8 16 (by decide) rfl qf_8_91 rfl dX8_round_119 ?_
                  cases hf
                  exact x_iret (pc := 122) C S dX8_round_122
                · have hf := ifp c11 hf
                  refine lv_aload_n (pc := 111) hx hb dX8_round_111 rfl (lv_at hl 0 rfl) ?_
                  refine x_get (pc := 112) (ci := 8) (T := TX8) (v := .int o8_t_back) C S 0 rfl rfl inlX8 15 (by decide) rfl qf_8_98 rfl dX8_round_112 ?_
                  refine lv_goto (tgt := 122) (pc := 115) hx hb dX8_round_115 (by decide) ?_
                  cases hf
                  exact x_iret (pc := 122) C S dX8_round_122
              · have hf := ifp c10 hf
                refine lv_aload_n (pc := 98) hx hb dX8_round_98 rfl (lv_at hl 0 rfl) ?_
                refine x_get (pc := 99) (ci := 8) (T := TX8) (v := .int o8_t_loads) C S 0 rfl rfl inlX8 18 (by decide) rfl qf_8_95 rfl dX8_round_99 ?_
                refine lv_goto (tgt := 122) (pc := 102) hx hb dX8_round_102 (by decide) ?_
                cases hf
                exact x_iret (pc := 122) C S dX8_round_122
            · have hf := ifp c9 hf
              refine lv_aload_n (pc := 65) hx hb dX8_round_65 rfl (lv_at hl 0 rfl) ?_
              refine lv_iload_n (pc := 66) hx hb dX8_round_66 rfl (lv_at hl 1 rfl) ?_
              refine lv_iconst (pc := 67) hx hb dX8_round_67 ic_3 ?_
              obtain ⟨r12, hq12, hf⟩ := bd_e hf
              refine x_vI (pc := 68) (As := [.int x1, .int (3 : Int32)]) (rest := []) (isC := [0, 1]) (ws' := (w_X8_round G a_t a_t_s a_t_image a_t_mind a_t_aside a_t_text a_t_read a_t_comes a_t_begins a_t_latest a_t_move a_t_sort a_t_items a_t_cell a_t_carried t_isKept t_work t_kind t_letters t_at t_fault o8_t_back o8_t_waits t_miles o8_t_loads t_bestRound t_bestPlace t_bestAdds t_regret t_z t_s o8_t_comes o8_t_begins o8_t_latest)) C S (c_X8_roundAt l G a_t a_t_s a_t_image a_t_mind a_t_aside a_t_text a_t_read a_t_comes a_t_begins a_t_latest a_t_move a_t_sort a_t_items a_t_cell a_t_carried t_isKept t_work t_kind t_letters t_at t_fault o8_t_back o8_t_waits t_miles o8_t_loads t_bestRound t_bestPlace t_bestAdds t_regret t_z t_s x1 (3 : Int32) r12 hq12) (u_X8_round_X8_roundAt_59 hts) (ci := 8) rfl 0 rfl rfl (by decide +kernel) [some 0, some 1, none, none, none] (by decide +kernel) rfl rfl rfl hl.1 rfl (Nat.le_of_ble_eq_true rfl) dX8_round_68 (fun H locs S => ?_)
              refine lv_if_ne (tgt := 79) (pc := 71) hx hb dX8_round_71 (by decide) (fun c13 => ?_) (fun c13 => ?_)
              · have hf := ifn c13 hf
                refine lv_aload_n (pc := 79) hx hb dX8_round_79 rfl (lv_at hl 0 rfl) ?_
                refine x_get (pc := 80) (ci := 8) (T := TX8) (v := .ref a_t_latest) C S 0 rfl rfl inlX8 14 (by decide) rfl qf_8_36 rfl dX8_round_80 ?_
                refine lv_iconst (pc := 83) hx hb dX8_round_83 ic_0 ?_
                refine x_iald (pc := 84) C S 4 rfl (vp_in_iff.mpr (by decide)) dX8_round_84 ?_
                refine lv_aload_n (pc := 85) hx hb dX8_round_85 rfl (lv_at hl 0 rfl) ?_
                refine x_get (pc := 86) (ci := 8) (T := TX8) (v := .ref a_t_comes) C S 0 rfl rfl inlX8 12 (by decide) rfl qf_8_30 rfl dX8_round_86 ?_
                refine lv_iconst (pc := 89) hx hb dX8_round_89 ic_0 ?_
                refine x_iald (pc := 90) C S 2 rfl (vp_in_iff.mpr (by decide)) dX8_round_90 ?_
                refine lv_isub (pc := 91) hx hb dX8_round_91 ?_
                cases hf
                exact x_iret (pc := 92) C S dX8_round_92
              · have hf := ifp c13 hf
                refine lv_bipush (pc := 74) hx hb dX8_round_74 bc_m5 ?_
                refine lv_goto (tgt := 92) (pc := 76) hx hb dX8_round_76 (by decide) ?_
                cases hf
                exact x_iret (pc := 92) C S dX8_round_92
          · have hf := ifp c7 hf
            refine lv_aload_n (pc := 48) hx hb dX8_round_48 rfl (lv_at hl 0 rfl) ?_
            refine lv_iload_n (pc := 49) hx hb dX8_round_49 rfl (lv_at hl 1 rfl) ?_
            obtain ⟨⟨r14, o14_t_comes, o14_t_begins, o14_t_latest, o14_t_back, o14_t_waits, o14_t_loads⟩, hq14, hf⟩ := bd_e hf
            refine x_vI (pc := 50) (As := [.int x1]) (rest := []) (isC := [0, 1, 2, 3, 4]) (ws' := (w_X8_round G a_t a_t_s a_t_image a_t_mind a_t_aside a_t_text a_t_read a_t_comes a_t_begins a_t_latest a_t_move a_t_sort a_t_items a_t_cell a_t_carried t_isKept t_work t_kind t_letters t_at t_fault o14_t_back o14_t_waits t_miles o14_t_loads t_bestRound t_bestPlace t_bestAdds t_regret t_z t_s o14_t_comes o14_t_begins o14_t_latest)) C S (c_X8_tight l G a_t a_t_s a_t_image a_t_mind a_t_aside a_t_text a_t_read a_t_comes a_t_begins a_t_latest a_t_move a_t_sort a_t_items a_t_cell a_t_carried t_isKept t_work t_kind t_letters t_at t_fault t_back t_waits t_miles t_loads t_bestRound t_bestPlace t_bestAdds t_regret t_z t_s t_comes t_begins t_latest x1 r14 o14_t_comes o14_t_begins o14_t_latest o14_t_back o14_t_waits o14_t_loads hq14) (u_X8_round_X8_tight_239 hts) (ci := 8) rfl 0 rfl rfl (by decide +kernel) [some 0, some 1, some 2, some 3, some 4] (by decide +kernel) rfl rfl rfl hl.1 rfl (Nat.le_of_ble_eq_true rfl) dX8_round_50 (fun H locs S => ?_)
            cases hf
            exact x_iret (pc := 53) C S dX8_round_53
        · have hf := ifp c6 hf
          refine lv_aload_n (pc := 36) hx hb dX8_round_36 rfl (lv_at hl 0 rfl) ?_
          refine lv_iload_n (pc := 37) hx hb dX8_round_37 rfl (lv_at hl 1 rfl) ?_
          obtain ⟨r15, hq15, hf⟩ := bd_e hf
          refine x_vI (pc := 38) (As := [.int x1]) (rest := []) (isC := [0, 1]) (ws' := (w_X8_round G a_t a_t_s a_t_image a_t_mind a_t_aside a_t_text a_t_read a_t_comes a_t_begins a_t_latest a_t_move a_t_sort a_t_items a_t_cell a_t_carried t_isKept t_work t_kind t_letters t_at t_fault t_back t_waits t_miles t_loads t_bestRound t_bestPlace t_bestAdds t_regret t_z t_s t_comes t_begins t_latest)) C S (c_X8_milesOf l G a_t a_t_s a_t_image a_t_mind a_t_aside a_t_text a_t_read a_t_comes a_t_begins a_t_latest a_t_move a_t_sort a_t_items a_t_cell a_t_carried t_isKept t_work t_kind t_letters t_at t_fault t_back t_waits t_miles t_loads t_bestRound t_bestPlace t_bestAdds t_regret t_z t_s x1 r15 hq15) (u_X8_round_X8_milesOf_111 hts) (ci := 8) rfl 0 rfl rfl (by decide +kernel) [some 0, some 1, none, none, none] (by decide +kernel) rfl rfl rfl hl.1 rfl (Nat.le_of_ble_eq_true rfl) dX8_round_38 (fun H locs S => ?_)
          cases hf
          exact x_iret (pc := 41) C S dX8_round_41
      · have hf := ifn c5 hf
        refine lv_aload_n (pc := 24) hx hb dX8_round_24 rfl (lv_at hl 0 rfl) ?_
        refine lv_iload_n (pc := 25) hx hb dX8_round_25 rfl (lv_at hl 1 rfl) ?_
        refine lv_iload_n (pc := 26) hx hb dX8_round_26 rfl (lv_at hl 2 rfl) ?_
        obtain ⟨r16, hq16, hf⟩ := bd_e hf
        refine x_vI (pc := 27) (As := [.int x1, .int x2]) (rest := []) (isC := [0, 1]) (ws' := (w_X8_round G a_t a_t_s a_t_image a_t_mind a_t_aside a_t_text a_t_read a_t_comes a_t_begins a_t_latest a_t_move a_t_sort a_t_items a_t_cell a_t_carried t_isKept t_work t_kind t_letters t_at t_fault t_back t_waits t_miles t_loads t_bestRound t_bestPlace t_bestAdds t_regret t_z t_s t_comes t_begins t_latest)) C S (c_X8_roundAt l G a_t a_t_s a_t_image a_t_mind a_t_aside a_t_text a_t_read a_t_comes a_t_begins a_t_latest a_t_move a_t_sort a_t_items a_t_cell a_t_carried t_isKept t_work t_kind t_letters t_at t_fault t_back t_waits t_miles t_loads t_bestRound t_bestPlace t_bestAdds t_regret t_z t_s x1 x2 r16 hq16) (u_X8_round_X8_roundAt_59 hts) (ci := 8) rfl 0 rfl rfl (by decide +kernel) [some 0, some 1, none, none, none] (by decide +kernel) rfl rfl rfl hl.1 rfl (Nat.le_of_ble_eq_true rfl) dX8_round_27 (fun H locs S => ?_)
        cases hf
        exact x_iret (pc := 30) C S dX8_round_30
    · have hf := ifp c4 hf
      refine lv_iconst (pc := 17) hx hb dX8_round_17 ic_m1 ?_
      cases hf
      exact x_iret (pc := 18) C S dX8_round_18
end

abbrev rm_X8_rule : Room := { frames := 7, cells := 0, slots := 0, locals := 164 }
abbrev kw_X8_rule : Cond := .code yX8_rule cX8_rule 4 (some .int)
abbrev w_X8_rule (G : GE) (a_t a_t_s a_t_image a_t_mind a_t_aside a_t_text a_t_read a_t_comes a_t_begins a_t_latest a_t_move a_t_sort a_t_items a_t_cell a_t_carried : Nat) (t_isKept : Int32) (t_work : Int32) (t_kind : Int32) (t_letters : Int32) (t_at : Int32) (t_fault : Int32) (t_back : Int32) (t_waits : Int32) (t_miles : Int32) (t_loads : Int32) (t_bestRound : Int32) (t_bestPlace : Int32) (t_bestAdds : Int32) (t_regret : Int32) (t_z : Int32) (t_s : Nat → Int32) (t_comes : Nat → Int32) (t_begins : Nat → Int32) : va_W := [(a_t, ob 8 [.ref a_t_s, .ref a_t_image, .ref a_t_mind, .ref a_t_aside, .int t_isKept, .int t_work, .int t_kind, .ref a_t_text, .ref a_t_read, .int t_letters, .int t_at, .int t_fault, .ref a_t_comes, .ref a_t_begins, .ref a_t_latest, .int t_back, .int t_waits, .int t_miles, .int t_loads, .int t_bestRound, .int t_bestPlace, .int t_bestAdds, .int t_regret, .ref a_t_move, .ref a_t_sort, .ref a_t_items, .ref a_t_cell, .ref a_t_carried, .int t_z]), (a_t_s, aI G 258 t_s), (a_t_comes, aI G 16 t_comes), (a_t_begins, aI G 16 t_begins)]
theorem u_X8_rule_X8_isRound_162 {s : State} {args : Array Value} (hts : ∀ w ∈ WU, w.before args s = true) : CallB rm_X8_rule s args RX8 162 yX8_isRound cX8_isRound 1 (some .boolean) (kw_X8_isRound :: WU) rm_X8_isRound 0 0 1 ∧ (Cond.static yX8_isRound).before args s = true := va_cwS 1 hts (gS qm_8_162 qs_X8_isRound qn_8 qc_X8_isRound) rfl rfl rfl (by decide +kernel) ⟨Nat.le_of_ble_eq_true rfl, Nat.le_of_ble_eq_true rfl⟩
theorem u_X8_rule_X8_isIn_55 {s : State} {args : Array Value} (hts : ∀ w ∈ WU, w.before args s = true) : CallB rm_X8_rule s args RX8 55 yX8_isIn cX8_isIn 3 (some .boolean) (kw_X8_isIn :: WU) rm_X8_isIn 0 0 3 ∧ (Cond.static yX8_isIn).before args s = true := va_cwS 3 hts (gS qm_8_55 qs_X8_isIn qn_8 qc_X8_isIn) rfl rfl rfl (by decide +kernel) ⟨Nat.le_of_ble_eq_true rfl, Nat.le_of_ble_eq_true rfl⟩
theorem u_X8_rule_X8_becomes_154 {s : State} {args : Array Value} (hts : ∀ w ∈ WU, w.before args s = true) : CallW rm_X8_rule s args RX8 RX8 154 yX8_becomes cX8_becomes 4 (some .int) (kw_X8_becomes :: WU) rm_X8_becomes 0 0 2 := cwV 2 hts (gV qm_8_154 qi_X8_becomes ql_X8_becomes qn_8 qc_X8_becomes) rfl rfl rfl (by decide +kernel) ⟨Nat.le_of_ble_eq_true rfl, Nat.le_of_ble_eq_true rfl⟩
section
variable {p : Program} {l : Launch} {e : Env} {s : State} {m : MethodId} {args : Array Value} {below : List Frame} {meth : Method} {c : Code} {A : Nat → Prop} {G : GE} {a_t a_t_s a_t_image a_t_mind a_t_aside a_t_text a_t_read a_t_comes a_t_begins a_t_latest a_t_move a_t_sort a_t_items a_t_cell a_t_carried : Nat} {r : Int32} {z_t_s : Nat → Int32} {z_t_comes : Nat → Int32} {z_t_begins : Nat → Int32} {z_t_back : Int32} {z_t_waits : Int32} {z_t_loads : Int32}
set_option maxRecDepth 100000 in
set_option maxHeartbeats 4000000 in
theorem k_X8_rule_43 (C : Cx p s m args meth c cX8_rule (some .int) 4 RX8 G A) (t_isKept : Int32) (t_work : Int32) (t_kind : Int32) (t_letters : Int32) (t_at : Int32) (t_fault : Int32) (t_back : Int32) (t_waits : Int32) (t_miles : Int32) (t_loads : Int32) (t_bestRound : Int32) (t_bestPlace : Int32) (t_bestAdds : Int32) (t_regret : Int32) (t_z : Int32) (t_s : Nat → Int32) (t_comes : Nat → Int32) (t_begins : Nat → Int32) (x1 : Int32) (x2 : Int32) (x3 : Int32) (y0 : Int32) (y1 : Int32) (y2 : Int32) {H : Heap} {locs : List Loc} {ls : Array Slot} (hf : b_X8_rule_43 x1 x2 x3 y0 y1 y2 t_s t_comes t_begins t_back t_waits t_loads = some (r, z_t_s, z_t_comes, z_t_begins, z_t_back, z_t_waits, z_t_loads)) (S : St G A s.heap H locs (w_X8_rule G a_t a_t_s a_t_image a_t_mind a_t_aside a_t_text a_t_read a_t_comes a_t_begins a_t_latest a_t_move a_t_sort a_t_items a_t_cell a_t_carried t_isKept t_work t_kind t_letters t_at t_fault t_back t_waits t_miles t_loads t_bestRound t_bestPlace t_bestAdds t_regret t_z t_s t_comes t_begins)) (hl : lv_has ls 4 [(0, .ref a_t), (1, .int x1), (2, .int x2), (3, .int x3)]) : W p l e rm_X8_rule s m args below meth c H locs 0 0 (QI G below args s A r (w_X8_rule G a_t a_t_s a_t_image a_t_mind a_t_aside a_t_text a_t_read a_t_comes a_t_begins a_t_latest a_t_move a_t_sort a_t_items a_t_cell a_t_carried t_isKept t_work t_kind t_letters t_at t_fault z_t_back z_t_waits t_miles z_t_loads t_bestRound t_bestPlace t_bestAdds t_regret t_z z_t_s z_t_comes z_t_begins)) (F0 m 43 ls [.int y2, .int y1, .int y0]) := by
  unfold b_X8_rule_43 at hf
  have hx := C.1
  have hb := C.2.1
  have hown := C.2.2.2.2.1
  have hts := C.2.2.2.2.2.1
  have hN := C.2.2.2.2.2.2.2.2.2.2
  obtain ⟨r1, hq1, hf⟩ := bd_e hf
  refine x_sI (pc := 43) (As := [.int y0, .int y1, .int y2]) (rest := []) (isC := []) (ws' := (w_X8_rule G a_t a_t_s a_t_image a_t_mind a_t_aside a_t_text a_t_read a_t_comes a_t_begins a_t_latest a_t_move a_t_sort a_t_items a_t_cell a_t_carried t_isKept t_work t_kind t_letters t_at t_fault t_back t_waits t_miles t_loads t_bestRound t_bestPlace t_bestAdds t_regret t_z t_s t_comes t_begins)) C S (c_X8_isIn l G y0 y1 y2 r1 hq1) (u_X8_rule_X8_isIn_55 hts) rfl (by decide +kernel) [none, none, none, none] (by decide +kernel) rfl rfl rfl hl.1 rfl (Nat.le_of_ble_eq_true rfl) dX8_rule_43 (fun H locs S => ?_)
  refine lv_if_ne (tgt := 52) (pc := 46) hx hb dX8_rule_46 (by decide) (fun c2 => ?_) (fun c2 => ?_)
  · have hf := ifn c2 hf
    refine lv_aload_n (pc := 52) hx hb dX8_rule_52 rfl (lv_at hl 0 rfl) ?_
    refine lv_sipush (pc := 53) hx hb dX8_rule_53 sc_178 ?_
    refine lv_bipush (pc := 56) hx hb dX8_rule_56 bc_20 ?_
    refine lv_iload_n (pc := 58) hx hb dX8_rule_58 rfl (lv_at hl 1 rfl) ?_
    refine lv_imul (pc := 59) hx hb dX8_rule_59 ?_
    refine lv_iadd (pc := 60) hx hb dX8_rule_60 ?_
    refine lv_iload_n (pc := 61) hx hb dX8_rule_61 rfl (lv_at hl 2 rfl) ?_
    refine lv_iadd (pc := 62) hx hb dX8_rule_62 ?_
    refine lv_iload_n (pc := 63) hx hb dX8_rule_63 rfl (lv_at hl 3 rfl) ?_
    obtain ⟨⟨r3, o3_t_s, o3_t_comes, o3_t_begins, o3_t_back, o3_t_waits, o3_t_loads⟩, hq3, hf⟩ := bd_e hf
    refine x_vI (pc := 64) (As := [.int (((178 : Int32) + ((20 : Int32) * x1)) + x2), .int x3]) (rest := []) (isC := [0, 1, 2, 3]) (ws' := (w_X8_rule G a_t a_t_s a_t_image a_t_mind a_t_aside a_t_text a_t_read a_t_comes a_t_begins a_t_latest a_t_move a_t_sort a_t_items a_t_cell a_t_carried t_isKept t_work t_kind t_letters t_at t_fault o3_t_back o3_t_waits t_miles o3_t_loads t_bestRound t_bestPlace t_bestAdds t_regret t_z o3_t_s o3_t_comes o3_t_begins)) C S (c_X8_becomes l G a_t a_t_s a_t_image a_t_mind a_t_aside a_t_text a_t_read a_t_comes a_t_begins a_t_latest a_t_move a_t_sort a_t_items a_t_cell a_t_carried t_isKept t_work t_kind t_letters t_at t_fault t_back t_waits t_miles t_loads t_bestRound t_bestPlace t_bestAdds t_regret t_z t_s t_comes t_begins (((178 : Int32) + ((20 : Int32) * x1)) + x2) x3 r3 o3_t_s o3_t_comes o3_t_begins o3_t_back o3_t_waits o3_t_loads hq3) (u_X8_rule_X8_becomes_154 hts) (ci := 8) rfl 0 rfl rfl (by decide +kernel) [some 0, some 1, some 2, some 3] (by decide +kernel) rfl rfl rfl hl.1 rfl (Nat.le_of_ble_eq_true rfl) dX8_rule_64 (fun H locs S => ?_)
    cases hf
    exact x_iret (pc := 67) C S dX8_rule_67
  · have hf := ifp c2 hf
    refine lv_bipush (pc := 49) hx hb dX8_rule_49 bc_m2 ?_
    cases hf
    exact x_iret (pc := 51) C S dX8_rule_51
set_option maxRecDepth 100000 in
set_option maxHeartbeats 4000000 in
theorem c_X8_rule (l : Launch) (G : GE) (a_t a_t_s a_t_image a_t_mind a_t_aside a_t_text a_t_read a_t_comes a_t_begins a_t_latest a_t_move a_t_sort a_t_items a_t_cell a_t_carried : Nat) (t_isKept : Int32) (t_work : Int32) (t_kind : Int32) (t_letters : Int32) (t_at : Int32) (t_fault : Int32) (t_back : Int32) (t_waits : Int32) (t_miles : Int32) (t_loads : Int32) (t_bestRound : Int32) (t_bestPlace : Int32) (t_bestAdds : Int32) (t_regret : Int32) (t_z : Int32) (t_s : Nat → Int32) (t_comes : Nat → Int32) (t_begins : Nat → Int32) (x1 : Int32) (x2 : Int32) (x3 : Int32) (r : Int32) (z_t_s : Nat → Int32) (z_t_comes : Nat → Int32) (z_t_begins : Nat → Int32) (z_t_back : Int32) (z_t_waits : Int32) (z_t_loads : Int32) (hf : f_X8_rule t_s t_comes t_begins t_back t_waits t_loads x1 x2 x3 = some (r, z_t_s, z_t_comes, z_t_begins, z_t_back, z_t_waits, z_t_loads)) : CI l G yX8_rule kw_X8_rule rm_X8_rule [.ref a_t, .int x1, .int x2, .int x3] (w_X8_rule G a_t a_t_s a_t_image a_t_mind a_t_aside a_t_text a_t_read a_t_comes a_t_begins a_t_latest a_t_move a_t_sort a_t_items a_t_cell a_t_carried t_isKept t_work t_kind t_letters t_at t_fault t_back t_waits t_miles t_loads t_bestRound t_bestPlace t_bestAdds t_regret t_z t_s t_comes t_begins) r (w_X8_rule G a_t a_t_s a_t_image a_t_mind a_t_aside a_t_text a_t_read a_t_comes a_t_begins a_t_latest a_t_move a_t_sort a_t_items a_t_cell a_t_carried t_isKept t_work t_kind t_letters t_at t_fault z_t_back z_t_waits t_miles z_t_loads t_bestRound t_bestPlace t_bestAdds t_regret t_z z_t_s z_t_comes z_t_begins) := by
  refine en_I (cc := cX8_rule) (maxL := 4) (ret := (some .int)) (by decide +kernel) (Nat.le_of_ble_eq_true rfl) ?_
  intro p e s m args below meth c A ls C S hl
  have hl : lv_has ls 4 [(0, .ref a_t), (1, .int x1), (2, .int x2), (3, .int x3)] := hl
  have C : Cx p s m args meth c cX8_rule (some .int) 4 RX8 G A := C
  unfold f_X8_rule at hf
  have hx := C.1
  have hb := C.2.1
  have hown := C.2.2.2.2.1
  have hts := C.2.2.2.2.2.1
  have hN := C.2.2.2.2.2.2.2.2.2.2
  refine lv_iload_n (pc := 0) hx hb dX8_rule_0 rfl (lv_at hl 1 rfl) ?_
  obtain ⟨r1, hq1, hf⟩ := bd_e hf
  refine x_sI (pc := 1) (As := [.int x1]) (rest := []) (isC := []) (ws' := (w_X8_rule G a_t a_t_s a_t_image a_t_mind a_t_aside a_t_text a_t_read a_t_comes a_t_begins a_t_latest a_t_move a_t_sort a_t_items a_t_cell a_t_carried t_isKept t_work t_kind t_letters t_at t_fault t_back t_waits t_miles t_loads t_bestRound t_bestPlace t_bestAdds t_regret t_z t_s t_comes t_begins)) C S (c_X8_isRound l G x1 r1 hq1) (u_X8_rule_X8_isRound_162 hts) rfl (by decide +kernel) [none, none, none, none] (by decide +kernel) rfl rfl rfl hl.1 rfl (Nat.le_of_ble_eq_true rfl) dX8_rule_1 (fun H locs S => ?_)
  refine lv_if_eq (tgt := 16) (pc := 4) hx hb dX8_rule_4 (by decide) (fun c2 => ?_) (fun c2 => ?_)
  · have hf := ifp c2 hf
    refine lv_iconst (pc := 16) hx hb dX8_rule_16 ic_m1 ?_
    cases hf
    exact x_iret (pc := 17) C S dX8_rule_17
  · have hf := ifn c2 hf
    refine lv_iload_n (pc := 7) hx hb dX8_rule_7 rfl (lv_at hl 2 rfl) ?_
    refine lv_iconst (pc := 8) hx hb dX8_rule_8 ic_0 ?_
    refine lv_iconst (pc := 9) hx hb dX8_rule_9 ic_2 ?_
    obtain ⟨r3, hq3, hf⟩ := bd_e hf
    refine x_sI (pc := 10) (As := [.int x2, .int (0 : Int32), .int (2 : Int32)]) (rest := []) (isC := []) (ws' := (w_X8_rule G a_t a_t_s a_t_image a_t_mind a_t_aside a_t_text a_t_read a_t_comes a_t_begins a_t_latest a_t_move a_t_sort a_t_items a_t_cell a_t_carried t_isKept t_work t_kind t_letters t_at t_fault t_back t_waits t_miles t_loads t_bestRound t_bestPlace t_bestAdds t_regret t_z t_s t_comes t_begins)) C S (c_X8_isIn l G x2 (0 : Int32) (2 : Int32) r3 hq3) (u_X8_rule_X8_isIn_55 hts) rfl (by decide +kernel) [none, none, none, none] (by decide +kernel) rfl rfl rfl hl.1 rfl (Nat.le_of_ble_eq_true rfl) dX8_rule_10 (fun H locs S => ?_)
    refine lv_if_ne (tgt := 18) (pc := 13) hx hb dX8_rule_13 (by decide) (fun c4 => ?_) (fun c4 => ?_)
    · have hf := ifn c4 hf
      refine lv_iload_n (pc := 18) hx hb dX8_rule_18 rfl (lv_at hl 3 rfl) ?_
      refine lv_iconst (pc := 19) hx hb dX8_rule_19 ic_0 ?_
      refine lv_iload_n (pc := 20) hx hb dX8_rule_20 rfl (lv_at hl 2 rfl) ?_
      refine lv_if_ne (tgt := 29) (pc := 21) hx hb dX8_rule_21 (by decide) (fun c5 => ?_) (fun c5 => ?_)
      · have hf := ifn c5 hf
        refine lv_iload_n (pc := 29) hx hb dX8_rule_29 rfl (lv_at hl 2 rfl) ?_
        refine lv_iconst (pc := 30) hx hb dX8_rule_30 ic_1 ?_
        refine lv_icmp_ne (tgt := 40) (pc := 31) hx hb dX8_rule_31 (by decide) (fun c6 => ?_) (fun c6 => ?_)
        · have hf := ifn c6 hf
          refine lv_sipush (pc := 40) hx hb dX8_rule_40 sc_1999 ?_
          exact k_X8_rule_43 C (t_isKept) (t_work) (t_kind) (t_letters) (t_at) (t_fault) (t_back) (t_waits) (t_miles) (t_loads) (t_bestRound) (t_bestPlace) (t_bestAdds) (t_regret) (t_z) (t_s) (t_comes) (t_begins) (x1) (x2) (x3) (x3) ((0 : Int32)) ((1999 : Int32)) hf S (lv_sub hl [0, 1, 2, 3] rfl)
        · have hf := ifp c6 hf
          refine lv_sipush (pc := 34) hx hb dX8_rule_34 sc_999 ?_
          refine lv_goto (tgt := 43) (pc := 37) hx hb dX8_rule_37 (by decide) ?_
          exact k_X8_rule_43 C (t_isKept) (t_work) (t_kind) (t_letters) (t_at) (t_fault) (t_back) (t_waits) (t_miles) (t_loads) (t_bestRound) (t_bestPlace) (t_bestAdds) (t_regret) (t_z) (t_s) (t_comes) (t_begins) (x1) (x2) (x3) (x3) ((0 : Int32)) ((999 : Int32)) hf S (lv_sub hl [0, 1, 2, 3] rfl)
      · have hf := ifp c5 hf
        refine lv_bipush (pc := 24) hx hb dX8_rule_24 bc_60 ?_
        refine lv_goto (tgt := 43) (pc := 26) hx hb dX8_rule_26 (by decide) ?_
        exact k_X8_rule_43 C (t_isKept) (t_work) (t_kind) (t_letters) (t_at) (t_fault) (t_back) (t_waits) (t_miles) (t_loads) (t_bestRound) (t_bestPlace) (t_bestAdds) (t_regret) (t_z) (t_s) (t_comes) (t_begins) (x1) (x2) (x3) (x3) ((0 : Int32)) ((60 : Int32)) hf S (lv_sub hl [0, 1, 2, 3] rfl)
    · have hf := ifp c4 hf
      refine lv_iconst (pc := 16) hx hb dX8_rule_16 ic_m1 ?_
      cases hf
      exact x_iret (pc := 17) C S dX8_rule_17
end
