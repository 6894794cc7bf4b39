abbrev rm_X8_see : Room := { frames := 2, cells := 0, slots := 0, locals := 43 }
abbrev kw_X8_see : Cond := .code yX8_see cX8_see 3 (some .int)
abbrev w_X8_see (G : GE) (a_t a_t_s a_t_image a_t_mind a_t_aside a_t_text a_t_read a_t_comes a_t_begins a_t_latest a_t_move a_t_sort a_t_items a_t_cell a_t_carried : Nat) (t_isKept : Int32) (t_work : Int32) (t_kind : Int32) (t_letters : Int32) (t_at : Int32) (t_fault : Int32) (t_back : Int32) (t_waits : Int32) (t_miles : Int32) (t_loads : Int32) (t_bestRound : Int32) (t_bestPlace : Int32) (t_bestAdds : Int32) (t_regret : Int32) (t_z : Int32) (t_s : Nat → Int32) : va_W := [(a_t, ob 8 [.ref a_t_s, .ref a_t_image, .ref a_t_mind, .ref a_t_aside, .int t_isKept, .int t_work, .int t_kind, .ref a_t_text, .ref a_t_read, .int t_letters, .int t_at, .int t_fault, .ref a_t_comes, .ref a_t_begins, .ref a_t_latest, .int t_back, .int t_waits, .int t_miles, .int t_loads, .int t_bestRound, .int t_bestPlace, .int t_bestAdds, .int t_regret, .ref a_t_move, .ref a_t_sort, .ref a_t_items, .ref a_t_cell, .ref a_t_carried, .int t_z]), (a_t_s, aI G 258 t_s)]
theorem u_X8_see_X8_isStop_151 {s : State} {args : Array Value} (hts : ∀ w ∈ WU, w.before args s = true) : CallW rm_X8_see s args RX8 RX8 151 yX8_isStop cX8_isStop 2 (some .boolean) (kw_X8_isStop :: WU) rm_X8_isStop 0 0 1 := cwV 1 hts (gV qm_8_151 qi_X8_isStop ql_X8_isStop qn_8 qc_X8_isStop) rfl rfl rfl (by decide +kernel) ⟨Nat.le_of_ble_eq_true rfl, Nat.le_of_ble_eq_true rfl⟩
theorem u_X8_see_X8_isIn_55 {s : State} {args : Array Value} (hts : ∀ w ∈ WU, w.before args s = true) : CallB rm_X8_see s args RX8 55 yX8_isIn cX8_isIn 3 (some .boolean) (kw_X8_isIn :: WU) rm_X8_isIn 0 0 3 ∧ (Cond.static yX8_isIn).before args s = true := va_cwS 3 hts (gS qm_8_55 qs_X8_isIn qn_8 qc_X8_isIn) rfl rfl rfl (by decide +kernel) ⟨Nat.le_of_ble_eq_true rfl, Nat.le_of_ble_eq_true rfl⟩
section
variable {p : Program} {l : Launch} {e : Env} {s : State} {m : MethodId} {args : Array Value} {below : List Frame} {meth : Method} {c : Code} {A : Nat → Prop} {G : GE} {a_t a_t_s a_t_image a_t_mind a_t_aside a_t_text a_t_read a_t_comes a_t_begins a_t_latest a_t_move a_t_sort a_t_items a_t_cell a_t_carried : Nat} {r : Int32} {z_t_s : Nat → Int32}
set_option maxRecDepth 100000 in
set_option maxHeartbeats 4000000 in
theorem c_X8_see (l : Launch) (G : GE) (a_t a_t_s a_t_image a_t_mind a_t_aside a_t_text a_t_read a_t_comes a_t_begins a_t_latest a_t_move a_t_sort a_t_items a_t_cell a_t_carried : Nat) (t_isKept : Int32) (t_work : Int32) (t_kind : Int32) (t_letters : Int32) (t_at : Int32) (t_fault : Int32) (t_back : Int32) (t_waits : Int32) (t_miles : Int32) (t_loads : Int32) (t_bestRound : Int32) (t_bestPlace : Int32) (t_bestAdds : Int32) (t_regret : Int32) (t_z : Int32) (t_s : Nat → Int32) (x1 : Int32) (x2 : Int32) (r : Int32) (z_t_s : Nat → Int32) (hf : f_X8_see t_s x1 x2 = some (r, z_t_s)) : CI l G yX8_see kw_X8_see rm_X8_see [.ref a_t, .int x1, .int x2] (w_X8_see G a_t a_t_s a_t_image a_t_mind a_t_aside a_t_text a_t_read a_t_comes a_t_begins a_t_latest a_t_move a_t_sort a_t_items a_t_cell a_t_carried t_isKept t_work t_kind t_letters t_at t_fault t_back t_waits t_miles t_loads t_bestRound t_bestPlace t_bestAdds t_regret t_z t_s) r (w_X8_see G a_t a_t_s a_t_image a_t_mind a_t_aside a_t_text a_t_read a_t_comes a_t_begins a_t_latest a_t_move a_t_sort a_t_items a_t_cell a_t_carried t_isKept t_work t_kind t_letters t_at t_fault t_back t_waits t_miles t_loads t_bestRound t_bestPlace t_bestAdds t_regret t_z z_t_s) := by
  refine en_I (cc := cX8_see) (maxL := 3) (ret := (some .int)) (by decide +kernel) (Nat.le_of_ble_eq_true rfl) ?_
  intro p e s m args below meth c A ls C S hl
  have hl : lv_has ls 3 [(0, .ref a_t), (1, .int x1), (2, .int x2)] := hl
  have C : Cx p s m args meth c cX8_see (some .int) 3 RX8 G A := C
  unfold f_X8_see at hf
  have hx := C.1
  have hb := C.2.1
  have hown := C.2.2.2.2.1
  have hts := C.2.2.2.2.2.1
  have hN := C.2.2.2.2.2.2.2.2.2.2
  refine lv_iload_n (pc := 0) hx hb dX8_see_0 rfl (lv_at hl 1 rfl) ?_
  refine lv_iconst (pc := 1) hx hb dX8_see_1 ic_m1 ?_
  refine lv_icmp_ne (tgt := 14) (pc := 2) hx hb dX8_see_2 (by decide) (fun c1 => ?_) (fun c1 => ?_)
  · have hf := ifn c1 hf
    refine lv_aload_n (pc := 14) hx hb dX8_see_14 rfl (lv_at hl 0 rfl) ?_
    refine lv_iload_n (pc := 15) hx hb dX8_see_15 rfl (lv_at hl 1 rfl) ?_
    obtain ⟨r2, hq2, hf⟩ := bd_e hf
    refine x_vI (pc := 16) (As := [.int x1]) (rest := []) (isC := [0, 1]) (ws' := (w_X8_see G a_t a_t_s a_t_image a_t_mind a_t_aside a_t_text a_t_read a_t_comes a_t_begins a_t_latest a_t_move a_t_sort a_t_items a_t_cell a_t_carried t_isKept t_work t_kind t_letters t_at t_fault t_back t_waits t_miles t_loads t_bestRound t_bestPlace t_bestAdds t_regret t_z t_s)) C S (c_X8_isStop l G a_t a_t_s a_t_image a_t_mind a_t_aside a_t_text a_t_read a_t_comes a_t_begins a_t_latest a_t_move a_t_sort a_t_items a_t_cell a_t_carried t_isKept t_work t_kind t_letters t_at t_fault t_back t_waits t_miles t_loads t_bestRound t_bestPlace t_bestAdds t_regret t_z t_s x1 r2 hq2) (u_X8_see_X8_isStop_151 hts) (ci := 8) rfl 0 rfl rfl (by decide +kernel) [some 0, some 1] (by decide +kernel) rfl rfl rfl hl.1 rfl (Nat.le_of_ble_eq_true rfl) dX8_see_16 (fun H locs S => ?_)
    refine lv_if_ne (tgt := 24) (pc := 19) hx hb dX8_see_19 (by decide) (fun c3 => ?_) (fun c3 => ?_)
    · have hf := ifn c3 hf
      refine lv_iload_n (pc := 24) hx hb dX8_see_24 rfl (lv_at hl 2 rfl) ?_
      refine lv_iconst (pc := 25) hx hb dX8_see_25 ic_0 ?_
      refine lv_sipush (pc := 26) hx hb dX8_see_26 sc_1999 ?_
      obtain ⟨r4, hq4, hf⟩ := bd_e hf
      refine x_sI (pc := 29) (As := [.int x2, .int (0 : Int32), .int (1999 : Int32)]) (rest := []) (isC := []) (ws' := (w_X8_see G a_t a_t_s a_t_image a_t_mind a_t_aside a_t_text a_t_read a_t_comes a_t_begins a_t_latest a_t_move a_t_sort a_t_items a_t_cell a_t_carried t_isKept t_work t_kind t_letters t_at t_fault t_back t_waits t_miles t_loads t_bestRound t_bestPlace t_bestAdds t_regret t_z t_s)) C S (c_X8_isIn l G x2 (0 : Int32) (1999 : Int32) r4 hq4) (u_X8_see_X8_isIn_55 hts) rfl (by decide +kernel) [none, none] (by decide +kernel) rfl rfl rfl hl.1 rfl (Nat.le_of_ble_eq_true rfl) dX8_see_29 (fun H locs S => ?_)
      refine lv_if_ne (tgt := 38) (pc := 32) hx hb dX8_see_32 (by decide) (fun c5 => ?_) (fun c5 => ?_)
      · have hf := ifn c5 hf
        refine lv_aload_n (pc := 38) hx hb dX8_see_38 rfl (lv_at hl 0 rfl) ?_
        refine x_get (pc := 39) (ci := 8) (T := TX8) (v := .ref a_t_s) C S 0 rfl rfl inlX8 0 (by decide) rfl qf_8_11 rfl dX8_see_39 ?_
        refine lv_iconst (pc := 42) hx hb dX8_see_42 ic_5 ?_
        refine x_iald (pc := 43) C S 1 rfl (vp_in_iff.mpr (by decide)) dX8_see_43 ?_
        refine lv_iconst (pc := 44) hx hb dX8_see_44 ic_5 ?_
        refine lv_icmp_ne (tgt := 51) (pc := 45) hx hb dX8_see_45 (by decide) (fun c6 => ?_) (fun c6 => ?_)
        · have hf := ifn c6 hf
          refine lv_aload_n (pc := 51) hx hb dX8_see_51 rfl (lv_at hl 0 rfl) ?_
          refine x_get (pc := 52) (ci := 8) (T := TX8) (v := .ref a_t_s) C S 0 rfl rfl inlX8 0 (by decide) rfl qf_8_11 rfl dX8_see_52 ?_
          refine lv_bipush (pc := 55) hx hb dX8_see_55 bc_8 ?_
          refine lv_iconst (pc := 57) hx hb dX8_see_57 ic_2 ?_
          refine lv_aload_n (pc := 58) hx hb dX8_see_58 rfl (lv_at hl 0 rfl) ?_
          refine x_get (pc := 59) (ci := 8) (T := TX8) (v := .ref a_t_s) C S 0 rfl rfl inlX8 0 (by decide) rfl qf_8_11 rfl dX8_see_59 ?_
          refine lv_iconst (pc := 62) hx hb dX8_see_62 ic_5 ?_
          refine x_iald (pc := 63) C S 1 rfl (vp_in_iff.mpr (by decide)) dX8_see_63 ?_
          refine lv_imul (pc := 64) hx hb dX8_see_64 ?_
          refine lv_iadd (pc := 65) hx hb dX8_see_65 ?_
          refine lv_iload_n (pc := 66) hx hb dX8_see_66 rfl (lv_at hl 1 rfl) ?_
          obtain ⟨hv7, hf⟩ := gI_e hf
          refine x_iast (pc := 67) (ws' := (w_X8_see G a_t a_t_s a_t_image a_t_mind a_t_aside a_t_text a_t_read a_t_comes a_t_begins a_t_latest a_t_move a_t_sort a_t_items a_t_cell a_t_carried t_isKept t_work t_kind t_letters t_at t_fault t_back t_waits t_miles t_loads t_bestRound t_bestPlace t_bestAdds t_regret t_z (upd t_s ((8 : Int32) + ((2 : Int32) * (t_s (5 : Int32).toNatClampNeg))).toNatClampNeg x1))) C S 1 rfl hv7 rfl dX8_see_67 (fun H locs S => ?_)
          refine lv_aload_n (pc := 68) hx hb dX8_see_68 rfl (lv_at hl 0 rfl) ?_
          refine x_get (pc := 69) (ci := 8) (T := TX8) (v := .ref a_t_s) C S 0 rfl rfl inlX8 0 (by decide) rfl qf_8_11 rfl dX8_see_69 ?_
          refine lv_bipush (pc := 72) hx hb dX8_see_72 bc_8 ?_
          refine lv_iconst (pc := 74) hx hb dX8_see_74 ic_2 ?_
          refine lv_aload_n (pc := 75) hx hb dX8_see_75 rfl (lv_at hl 0 rfl) ?_
          refine x_get (pc := 76) (ci := 8) (T := TX8) (v := .ref a_t_s) C S 0 rfl rfl inlX8 0 (by decide) rfl qf_8_11 rfl dX8_see_76 ?_
          refine lv_iconst (pc := 79) hx hb dX8_see_79 ic_5 ?_
          refine x_iald (pc := 80) C S 1 rfl (vp_in_iff.mpr (by decide)) dX8_see_80 ?_
          refine lv_imul (pc := 81) hx hb dX8_see_81 ?_
          refine lv_iadd (pc := 82) hx hb dX8_see_82 ?_
          refine lv_iconst (pc := 83) hx hb dX8_see_83 ic_1 ?_
          refine lv_iadd (pc := 84) hx hb dX8_see_84 ?_
          refine lv_iload_n (pc := 85) hx hb dX8_see_85 rfl (lv_at hl 2 rfl) ?_
          obtain ⟨hv8, hf⟩ := gI_e hf
          refine x_iast (pc := 86) (ws' := (w_X8_see G a_t a_t_s a_t_image a_t_mind a_t_aside a_t_text a_t_read a_t_comes a_t_begins a_t_latest a_t_move a_t_sort a_t_items a_t_cell a_t_carried t_isKept t_work t_kind t_letters t_at t_fault t_back t_waits t_miles t_loads t_bestRound t_bestPlace t_bestAdds t_regret t_z (upd (upd t_s ((8 : Int32) + ((2 : Int32) * (t_s (5 : Int32).toNatClampNeg))).toNatClampNeg x1) (((8 : Int32) + ((2 : Int32) * ((upd t_s ((8 : Int32) + ((2 : Int32) * (t_s (5 : Int32).toNatClampNeg))).toNatClampNeg x1) (5 : Int32).toNatClampNeg))) + (1 : Int32)).toNatClampNeg x2))) C S 1 rfl hv8 rfl dX8_see_86 (fun H locs S => ?_)
          refine lv_aload_n (pc := 87) hx hb dX8_see_87 rfl (lv_at hl 0 rfl) ?_
          refine x_get (pc := 88) (ci := 8) (T := TX8) (v := .ref a_t_s) C S 0 rfl rfl inlX8 0 (by decide) rfl qf_8_11 rfl dX8_see_88 ?_
          refine lv_iconst (pc := 91) hx hb dX8_see_91 ic_5 ?_
          refine lv_dup2_11 (pc := 92) hx hb dX8_see_92 rfl rfl ?_
          refine x_iald (pc := 93) C S 1 rfl (vp_in_iff.mpr (by decide)) dX8_see_93 ?_
          refine lv_iconst (pc := 94) hx hb dX8_see_94 ic_1 ?_
          refine lv_iadd (pc := 95) hx hb dX8_see_95 ?_
          refine x_iast (pc := 96) (ws' := (w_X8_see G a_t a_t_s a_t_image a_t_mind a_t_aside a_t_text a_t_read a_t_comes a_t_begins a_t_latest a_t_move a_t_sort a_t_items a_t_cell a_t_carried t_isKept t_work t_kind t_letters t_at t_fault t_back t_waits t_miles t_loads t_bestRound t_bestPlace t_bestAdds t_regret t_z (upd (upd (upd t_s ((8 : Int32) + ((2 : Int32) * (t_s (5 : Int32).toNatClampNeg))).toNatClampNeg x1) (((8 : Int32) + ((2 : Int32) * ((upd t_s ((8 : Int32) + ((2 : Int32) * (t_s (5 : Int32).toNatClampNeg))).toNatClampNeg x1) (5 : Int32).toNatClampNeg))) + (1 : Int32)).toNatClampNeg x2) (5 : Int32).toNatClampNeg (((upd (upd t_s ((8 : Int32) + ((2 : Int32) * (t_s (5 : Int32).toNatClampNeg))).toNatClampNeg x1) (((8 : Int32) + ((2 : Int32) * ((upd t_s ((8 : Int32) + ((2 : Int32) * (t_s (5 : Int32).toNatClampNeg))).toNatClampNeg x1) (5 : Int32).toNatClampNeg))) + (1 : Int32)).toNatClampNeg x2) (5 : Int32).toNatClampNeg) + (1 : Int32))))) C S 1 rfl (vp_in_iff.mpr (by decide)) rfl dX8_see_96 (fun H locs S => ?_)
          refine lv_aload_n (pc := 97) hx hb dX8_see_97 rfl (lv_at hl 0 rfl) ?_
          refine x_get (pc := 98) (ci := 8) (T := TX8) (v := .ref a_t_s) C S 0 rfl rfl inlX8 0 (by decide) rfl qf_8_11 rfl dX8_see_98 ?_
          refine lv_iconst (pc := 101) hx hb dX8_see_101 ic_5 ?_
          refine x_iald (pc := 102) C S 1 rfl (vp_in_iff.mpr (by decide)) dX8_see_102 ?_
          cases hf
          exact x_iret (pc := 103) C S dX8_see_103
        · have hf := ifp c6 hf
          refine lv_bipush (pc := 48) hx hb dX8_see_48 bc_m4 ?_
          cases hf
          exact x_iret (pc := 50) C S dX8_see_50
      · have hf := ifp c5 hf
        refine lv_bipush (pc := 35) hx hb dX8_see_35 bc_m2 ?_
        cases hf
        exact x_iret (pc := 37) C S dX8_see_37
    · have hf := ifp c3 hf
      refine lv_iconst (pc := 22) hx hb dX8_see_22 ic_m1 ?_
      cases hf
      exact x_iret (pc := 23) C S dX8_see_23
  · have hf := ifp c1 hf
    refine lv_aload_n (pc := 5) hx hb dX8_see_5 rfl (lv_at hl 0 rfl) ?_
    refine x_get (pc := 6) (ci := 8) (T := TX8) (v := .ref a_t_s) C S 0 rfl rfl inlX8 0 (by decide) rfl qf_8_11 rfl dX8_see_6 ?_
    refine lv_iconst (pc := 9) hx hb dX8_see_9 ic_5 ?_
    refine lv_iconst (pc := 10) hx hb dX8_see_10 ic_0 ?_
    refine x_iast (pc := 11) (ws' := (w_X8_see G a_t a_t_s a_t_image a_t_mind a_t_aside a_t_text a_t_read a_t_comes a_t_begins a_t_latest a_t_move a_t_sort a_t_items a_t_cell a_t_carried t_isKept t_work t_kind t_letters t_at t_fault t_back t_waits t_miles t_loads t_bestRound t_bestPlace t_bestAdds t_regret t_z (upd t_s (5 : Int32).toNatClampNeg (0 : Int32)))) C S 1 rfl (vp_in_iff.mpr (by decide)) rfl dX8_see_11 (fun H locs S => ?_)
    refine lv_iconst (pc := 12) hx hb dX8_see_12 ic_0 ?_
    cases hf
    exact x_iret (pc := 13) C S dX8_see_13
end

abbrev rm_X8_set : Room := { frames := 7, cells := 0, slots := 0, locals := 164 }
abbrev kw_X8_set : Cond := .code yX8_set cX8_set 4 (some .int)
abbrev w_X8_set (G : GE) (a_t a_t_s a_t_image a_t_mind a_t_aside a_t_text a_t_read a_t_comes a_t_begins a_t_latest a_t_move a_t_sort a_t_items a_t_cell a_t_carried : Nat) (t_isKept : Int32) (t_work : Int32) (t_kind : Int32) (t_letters : Int32) (t_at : Int32) (t_fault : Int32) (t_back : Int32) (t_waits : Int32) (t_miles : Int32) (t_loads : Int32) (t_bestRound : Int32) (t_bestPlace : Int32) (t_bestAdds : Int32) (t_regret : Int32) (t_z : Int32) (t_s : Nat → Int32) (t_comes : Nat → Int32) (t_begins : Nat → Int32) : va_W := [(a_t, ob 8 [.ref a_t_s, .ref a_t_image, .ref a_t_mind, .ref a_t_aside, .int t_isKept, .int t_work, .int t_kind, .ref a_t_text, .ref a_t_read, .int t_letters, .int t_at, .int t_fault, .ref a_t_comes, .ref a_t_begins, .ref a_t_latest, .int t_back, .int t_waits, .int t_miles, .int t_loads, .int t_bestRound, .int t_bestPlace, .int t_bestAdds, .int t_regret, .ref a_t_move, .ref a_t_sort, .ref a_t_items, .ref a_t_cell, .ref a_t_carried, .int t_z]), (a_t_s, aI G 258 t_s), (a_t_comes, aI G 16 t_comes), (a_t_begins, aI G 16 t_begins)]
theorem u_X8_set_X8_isStop_151 {s : State} {args : Array Value} (hts : ∀ w ∈ WU, w.before args s = true) : CallW rm_X8_set s args RX8 RX8 151 yX8_isStop cX8_isStop 2 (some .boolean) (kw_X8_isStop :: WU) rm_X8_isStop 0 0 1 := cwV 1 hts (gV qm_8_151 qi_X8_isStop ql_X8_isStop qn_8 qc_X8_isStop) rfl rfl rfl (by decide +kernel) ⟨Nat.le_of_ble_eq_true rfl, Nat.le_of_ble_eq_true rfl⟩
theorem u_X8_set_X8_isIn_55 {s : State} {args : Array Value} (hts : ∀ w ∈ WU, w.before args s = true) : CallB rm_X8_set s args RX8 55 yX8_isIn cX8_isIn 3 (some .boolean) (kw_X8_isIn :: WU) rm_X8_isIn 0 0 3 ∧ (Cond.static yX8_isIn).before args s = true := va_cwS 3 hts (gS qm_8_55 qs_X8_isIn qn_8 qc_X8_isIn) rfl rfl rfl (by decide +kernel) ⟨Nat.le_of_ble_eq_true rfl, Nat.le_of_ble_eq_true rfl⟩
theorem u_X8_set_X8_isTold_114 {s : State} {args : Array Value} (hts : ∀ w ∈ WU, w.before args s = true) : CallB rm_X8_set s args RX8 114 yX8_isTold cX8_isTold 2 (some .boolean) (kw_X8_isTold :: WU) rm_X8_isTold 0 0 2 ∧ (Cond.static yX8_isTold).before args s = true := va_cwS 2 hts (gS qm_8_114 qs_X8_isTold qn_8 qc_X8_isTold) rfl rfl rfl (by decide +kernel) ⟨Nat.le_of_ble_eq_true rfl, Nat.le_of_ble_eq_true rfl⟩
theorem u_X8_set_X8_stopAt_78 {s : State} {args : Array Value} (hts : ∀ w ∈ WU, w.before args s = true) : CallW rm_X8_set s args RX8 RX8 78 yX8_stopAt cX8_stopAt 3 (some .int) (kw_X8_stopAt :: WU) rm_X8_stopAt 0 0 2 := cwV 2 hts (gV qm_8_78 qi_X8_stopAt ql_X8_stopAt qn_8 qc_X8_stopAt) rfl rfl rfl (by decide +kernel) ⟨Nat.le_of_ble_eq_true rfl, Nat.le_of_ble_eq_true rfl⟩
theorem u_X8_set_X8_becomes_154 {s : State} {args : Array Value} (hts : ∀ w ∈ WU, w.before args s = true) : CallW rm_X8_set s args RX8 RX8 154 yX8_becomes cX8_becomes 4 (some .int) (kw_X8_becomes :: WU) rm_X8_becomes 0 0 2 := cwV 2 hts (gV qm_8_154 qi_X8_becomes ql_X8_becomes qn_8 qc_X8_becomes) rfl rfl rfl (by decide +kernel) ⟨Nat.le_of_ble_eq_true rfl, Nat.le_of_ble_eq_true rfl⟩
section
variable {p : Program} {l : Launch} {e : Env} {s : State} {m : MethodId} {args : Array Value} {below : List Frame} {meth : Method} {c : Code} {A : Nat → Prop} {G : GE} {a_t a_t_s a_t_image a_t_mind a_t_aside a_t_text a_t_read a_t_comes a_t_begins a_t_latest a_t_move a_t_sort a_t_items a_t_cell a_t_carried : Nat} {r : Int32} {z_t_s : Nat → Int32} {z_t_comes : Nat → Int32} {z_t_begins : Nat → Int32} {z_t_back : Int32} {z_t_waits : Int32} {z_t_loads : Int32}
set_option maxRecDepth 100000 in
set_option maxHeartbeats 4000000 in
theorem k_X8_set_60 (C : Cx p s m args meth c cX8_set (some .int) 4 RX8 G A) (t_isKept : Int32) (t_work : Int32) (t_kind : Int32) (t_letters : Int32) (t_at : Int32) (t_fault : Int32) (t_back : Int32) (t_waits : Int32) (t_miles : Int32) (t_loads : Int32) (t_bestRound : Int32) (t_bestPlace : Int32) (t_bestAdds : Int32) (t_regret : Int32) (t_z : Int32) (t_s : Nat → Int32) (t_comes : Nat → Int32) (t_begins : Nat → Int32) (x1 : Int32) (x2 : Int32) (x3 : Int32) {H : Heap} {locs : List Loc} {ls : Array Slot} (hf : b_X8_set_60 x1 x2 x3 t_s t_comes t_begins t_back t_waits t_loads = some (r, z_t_s, z_t_comes, z_t_begins, z_t_back, z_t_waits, z_t_loads)) (S : St G A s.heap H locs (w_X8_set G a_t a_t_s a_t_image a_t_mind a_t_aside a_t_text a_t_read a_t_comes a_t_begins a_t_latest a_t_move a_t_sort a_t_items a_t_cell a_t_carried t_isKept t_work t_kind t_letters t_at t_fault t_back t_waits t_miles t_loads t_bestRound t_bestPlace t_bestAdds t_regret t_z t_s t_comes t_begins)) (hl : lv_has ls 4 [(0, .ref a_t), (1, .int x1), (2, .int x2), (3, .int x3)]) : W p l e rm_X8_set s m args below meth c H locs 0 0 (QI G below args s A r (w_X8_set G a_t a_t_s a_t_image a_t_mind a_t_aside a_t_text a_t_read a_t_comes a_t_begins a_t_latest a_t_move a_t_sort a_t_items a_t_cell a_t_carried t_isKept t_work t_kind t_letters t_at t_fault z_t_back z_t_waits t_miles z_t_loads t_bestRound t_bestPlace t_bestAdds t_regret t_z z_t_s z_t_comes z_t_begins)) (F0 m 60 ls []) := by
  unfold b_X8_set_60 at hf
  have hx := C.1
  have hb := C.2.1
  have hown := C.2.2.2.2.1
  have hts := C.2.2.2.2.2.1
  have hN := C.2.2.2.2.2.2.2.2.2.2
  refine lv_aload_n (pc := 60) hx hb dX8_set_60 rfl (lv_at hl 0 rfl) ?_
  refine lv_bipush (pc := 61) hx hb dX8_set_61 bc_50 ?_
  refine lv_bipush (pc := 63) hx hb dX8_set_63 bc_8 ?_
  refine lv_iload_n (pc := 65) hx hb dX8_set_65 rfl (lv_at hl 1 rfl) ?_
  refine lv_imul (pc := 66) hx hb dX8_set_66 ?_
  refine lv_iadd (pc := 67) hx hb dX8_set_67 ?_
  refine lv_iload_n (pc := 68) hx hb dX8_set_68 rfl (lv_at hl 2 rfl) ?_
  refine lv_iadd (pc := 69) hx hb dX8_set_69 ?_
  refine lv_iload_n (pc := 70) hx hb dX8_set_70 rfl (lv_at hl 3 rfl) ?_
  obtain ⟨⟨r1, o1_t_s, o1_t_comes, o1_t_begins, o1_t_back, o1_t_waits, o1_t_loads⟩, hq1, hf⟩ := bd_e hf
  refine x_vI (pc := 71) (As := [.int (((50 : Int32) + ((8 : Int32) * x1)) + x2), .int x3]) (rest := []) (isC := [0, 1, 2, 3]) (ws' := (w_X8_set G a_t a_t_s a_t_image a_t_mind a_t_aside a_t_text a_t_read a_t_comes a_t_begins a_t_latest a_t_move a_t_sort a_t_items a_t_cell a_t_carried t_isKept t_work t_kind t_letters t_at t_fault o1_t_back o1_t_waits t_miles o1_t_loads t_bestRound t_bestPlace t_bestAdds t_regret t_z o1_t_s o1_t_comes o1_t_begins)) C S (c_X8_becomes l G a_t a_t_s a_t_image a_t_mind a_t_aside a_t_text a_t_read a_t_comes a_t_begins a_t_latest a_t_move a_t_sort a_t_items a_t_cell a_t_carried t_isKept t_work t_kind t_letters t_at t_fault t_back t_waits t_miles t_loads t_bestRound t_bestPlace t_bestAdds t_regret t_z t_s t_comes t_begins (((50 : Int32) + ((8 : Int32) * x1)) + x2) x3 r1 o1_t_s o1_t_comes o1_t_begins o1_t_back o1_t_waits o1_t_loads hq1) (u_X8_set_X8_becomes_154 hts) (ci := 8) rfl 0 rfl rfl (by decide +kernel) [some 0, some 1, some 2, some 3] (by decide +kernel) rfl rfl rfl hl.1 rfl (Nat.le_of_ble_eq_true rfl) dX8_set_71 (fun H locs S => ?_)
  cases hf
  exact x_iret (pc := 74) C S dX8_set_74
set_option maxRecDepth 100000 in
set_option maxHeartbeats 4000000 in
theorem k_X8_set_42 (C : Cx p s m args meth c cX8_set (some .int) 4 RX8 G A) (t_isKept : Int32) (t_work : Int32) (t_kind : Int32) (t_letters : Int32) (t_at : Int32) (t_fault : Int32) (t_back : Int32) (t_waits : Int32) (t_miles : Int32) (t_loads : Int32) (t_bestRound : Int32) (t_bestPlace : Int32) (t_bestAdds : Int32) (t_regret : Int32) (t_z : Int32) (t_s : Nat → Int32) (t_comes : Nat → Int32) (t_begins : Nat → Int32) (x1 : Int32) (x2 : Int32) (x3 : Int32) {H : Heap} {locs : List Loc} {ls : Array Slot} (hf : b_X8_set_42 x1 x2 x3 t_s t_comes t_begins t_back t_waits t_loads = some (r, z_t_s, z_t_comes, z_t_begins, z_t_back, z_t_waits, z_t_loads)) (S : St G A s.heap H locs (w_X8_set G a_t a_t_s a_t_image a_t_mind a_t_aside a_t_text a_t_read a_t_comes a_t_begins a_t_latest a_t_move a_t_sort a_t_items a_t_cell a_t_carried t_isKept t_work t_kind t_letters t_at t_fault t_back t_waits t_miles t_loads t_bestRound t_bestPlace t_bestAdds t_regret t_z t_s t_comes t_begins)) (hl : lv_has ls 4 [(0, .ref a_t), (1, .int x1), (2, .int x2), (3, .int x3)]) : W p l e rm_X8_set s m args below meth c H locs 0 0 (QI G below args s A r (w_X8_set G a_t a_t_s a_t_image a_t_mind a_t_aside a_t_text a_t_read a_t_comes a_t_begins a_t_latest a_t_move a_t_sort a_t_items a_t_cell a_t_carried t_isKept t_work t_kind t_letters t_at t_fault z_t_back z_t_waits t_miles z_t_loads t_bestRound t_bestPlace t_bestAdds t_regret t_z z_t_s z_t_comes z_t_begins)) (F0 m 42 ls []) := by
  unfold b_X8_set_42 at hf
  have hx := C.1
  have hb := C.2.1
  have hown := C.2.2.2.2.1
  have hts := C.2.2.2.2.2.1
  have hN := C.2.2.2.2.2.2.2.2.2.2
  refine lv_iload_n (pc := 42) hx hb dX8_set_42 rfl (lv_at hl 2 rfl) ?_
  refine lv_iconst (pc := 43) hx hb dX8_set_43 ic_4 ?_
  refine lv_icmp_ne (tgt := 60) (pc := 44) hx hb dX8_set_44 (by decide) (fun c1 => ?_) (fun c1 => ?_)
  · have hf := ifn c1 hf
    exact k_X8_set_60 C (t_isKept) (t_work) (t_kind) (t_letters) (t_at) (t_fault) (t_back) (t_waits) (t_miles) (t_loads) (t_bestRound) (t_bestPlace) (t_bestAdds) (t_regret) (t_z) (t_s) (t_comes) (t_begins) (x1) (x2) (x3) hf S (lv_sub hl [0, 1, 2, 3] rfl)
  · have hf := ifp c1 hf
    refine lv_iload_n (pc := 47) hx hb dX8_set_47 rfl (lv_at hl 3 rfl) ?_
    refine lv_aload_n (pc := 48) hx hb dX8_set_48 rfl (lv_at hl 0 rfl) ?_
    refine lv_iload_n (pc := 49) hx hb dX8_set_49 rfl (lv_at hl 1 rfl) ?_
    refine lv_iconst (pc := 50) hx hb dX8_set_50 ic_3 ?_
    obtain ⟨r2, hq2, hf⟩ := bd_e hf
    refine x_vI (pc := 51) (As := [.int x1, .int (3 : Int32)]) (rest := [.int x3]) (isC := [0, 1]) (ws' := (w_X8_set G a_t a_t_s a_t_image a_t_mind a_t_aside a_t_text a_t_read a_t_comes a_t_begins a_t_latest a_t_move a_t_sort a_t_items a_t_cell a_t_carried t_isKept t_work t_kind t_letters t_at t_fault t_back t_waits t_miles t_loads t_bestRound t_bestPlace t_bestAdds t_regret t_z t_s t_comes t_begins)) C S (c_X8_stopAt l G a_t a_t_s a_t_image a_t_mind a_t_aside a_t_text a_t_read a_t_comes a_t_begins a_t_latest a_t_move a_t_sort a_t_items a_t_cell a_t_carried t_isKept t_work t_kind t_letters t_at t_fault t_back t_waits t_miles t_loads t_bestRound t_bestPlace t_bestAdds t_regret t_z t_s x1 (3 : Int32) r2 hq2) (u_X8_set_X8_stopAt_78 hts) (ci := 8) rfl 0 rfl rfl (by decide +kernel) [some 0, some 1, none, none] (by decide +kernel) rfl rfl rfl hl.1 rfl (Nat.le_of_ble_eq_true rfl) dX8_set_51 (fun H locs S => ?_)
    refine lv_icmp_ge (tgt := 60) (pc := 54) hx hb dX8_set_54 (by decide) (fun c3 => ?_) (fun c3 => ?_)
    · have hf := ifp c3 hf
      exact k_X8_set_60 C (t_isKept) (t_work) (t_kind) (t_letters) (t_at) (t_fault) (t_back) (t_waits) (t_miles) (t_loads) (t_bestRound) (t_bestPlace) (t_bestAdds) (t_regret) (t_z) (t_s) (t_comes) (t_begins) (x1) (x2) (x3) hf S (lv_sub hl [0, 1, 2, 3] rfl)
    · have hf := ifn c3 hf
      refine lv_bipush (pc := 57) hx hb dX8_set_57 bc_m2 ?_
      cases hf
      exact x_iret (pc := 59) C S dX8_set_59
set_option maxRecDepth 100000 in
set_option maxHeartbeats 4000000 in
theorem c_X8_set (l : Launch) (G : GE) (a_t a_t_s a_t_image a_t_mind a_t_aside a_t_text a_t_read a_t_comes a_t_begins a_t_latest a_t_move a_t_sort a_t_items a_t_cell a_t_carried : Nat) (t_isKept : Int32) (t_work : Int32) (t_kind : Int32) (t_letters : Int32) (t_at : Int32) (t_fault : Int32) (t_back : Int32) (t_waits : Int32) (t_miles : Int32) (t_loads : Int32) (t_bestRound : Int32) (t_bestPlace : Int32) (t_bestAdds : Int32) (t_regret : Int32) (t_z : Int32) (t_s : Nat → Int32) (t_comes : Nat → Int32) (t_begins : Nat → Int32) (x1 : Int32) (x2 : Int32) (x3 : Int32) (r : Int32) (z_t_s : Nat → Int32) (z_t_comes : Nat → Int32) (z_t_begins : Nat → Int32) (z_t_back : Int32) (z_t_waits : Int32) (z_t_loads : Int32) (hf : f_X8_set t_s t_comes t_begins t_back t_waits t_loads x1 x2 x3 = some (r, z_t_s, z_t_comes, z_t_begins, z_t_back, z_t_waits, z_t_loads)) : CI l G yX8_set kw_X8_set rm_X8_set [.ref a_t, .int x1, .int x2, .int x3] (w_X8_set G a_t a_t_s a_t_image a_t_mind a_t_aside a_t_text a_t_read a_t_comes a_t_begins a_t_latest a_t_move a_t_sort a_t_items a_t_cell a_t_carried t_isKept t_work t_kind t_letters t_at t_fault t_back t_waits t_miles t_loads t_bestRound t_bestPlace t_bestAdds t_regret t_z t_s t_comes t_begins) r (w_X8_set G a_t a_t_s a_t_image a_t_mind a_t_aside a_t_text a_t_read a_t_comes a_t_begins a_t_latest a_t_move a_t_sort a_t_items a_t_cell a_t_carried t_isKept t_work t_kind t_letters t_at t_fault z_t_back z_t_waits t_miles z_t_loads t_bestRound t_bestPlace t_bestAdds t_regret t_z z_t_s z_t_comes z_t_begins) := by
  refine en_I (cc := cX8_set) (maxL := 4) (ret := (some .int)) (by decide +kernel) (Nat.le_of_ble_eq_true rfl) ?_
  intro p e s m args below meth c A ls C S hl
  have hl : lv_has ls 4 [(0, .ref a_t), (1, .int x1), (2, .int x2), (3, .int x3)] := hl
  have C : Cx p s m args meth c cX8_set (some .int) 4 RX8 G A := C
  unfold f_X8_set at hf
  have hx := C.1
  have hb := C.2.1
  have hown := C.2.2.2.2.1
  have hts := C.2.2.2.2.2.1
  have hN := C.2.2.2.2.2.2.2.2.2.2
  refine lv_aload_n (pc := 0) hx hb dX8_set_0 rfl (lv_at hl 0 rfl) ?_
  refine lv_iload_n (pc := 1) hx hb dX8_set_1 rfl (lv_at hl 1 rfl) ?_
  obtain ⟨r1, hq1, hf⟩ := bd_e hf
  refine x_vI (pc := 2) (As := [.int x1]) (rest := []) (isC := [0, 1]) (ws' := (w_X8_set G a_t a_t_s a_t_image a_t_mind a_t_aside a_t_text a_t_read a_t_comes a_t_begins a_t_latest a_t_move a_t_sort a_t_items a_t_cell a_t_carried t_isKept t_work t_kind t_letters t_at t_fault t_back t_waits t_miles t_loads t_bestRound t_bestPlace t_bestAdds t_regret t_z t_s t_comes t_begins)) C S (c_X8_isStop l G a_t a_t_s a_t_image a_t_mind a_t_aside a_t_text a_t_read a_t_comes a_t_begins a_t_latest a_t_move a_t_sort a_t_items a_t_cell a_t_carried t_isKept t_work t_kind t_letters t_at t_fault t_back t_waits t_miles t_loads t_bestRound t_bestPlace t_bestAdds t_regret t_z t_s x1 r1 hq1) (u_X8_set_X8_isStop_151 hts) (ci := 8) rfl 0 rfl rfl (by decide +kernel) [some 0, some 1, none, none] (by decide +kernel) rfl rfl rfl hl.1 rfl (Nat.le_of_ble_eq_true rfl) dX8_set_2 (fun H locs S => ?_)
  refine lv_if_eq (tgt := 17) (pc := 5) hx hb dX8_set_5 (by decide) (fun c2 => ?_) (fun c2 => ?_)
  · have hf := ifp c2 hf
    refine lv_iconst (pc := 17) hx hb dX8_set_17 ic_m1 ?_
    cases hf
    exact x_iret (pc := 18) C S dX8_set_18
  · have hf := ifn c2 hf
    refine lv_iload_n (pc := 8) hx hb dX8_set_8 rfl (lv_at hl 2 rfl) ?_
    refine lv_iconst (pc := 9) hx hb dX8_set_9 ic_0 ?_
    refine lv_iconst (pc := 10) hx hb dX8_set_10 ic_5 ?_
    obtain ⟨r3, hq3, hf⟩ := bd_e hf
    refine x_sI (pc := 11) (As := [.int x2, .int (0 : Int32), .int (5 : Int32)]) (rest := []) (isC := []) (ws' := (w_X8_set G a_t a_t_s a_t_image a_t_mind a_t_aside a_t_text a_t_read a_t_comes a_t_begins a_t_latest a_t_move a_t_sort a_t_items a_t_cell a_t_carried t_isKept t_work t_kind t_letters t_at t_fault t_back t_waits t_miles t_loads t_bestRound t_bestPlace t_bestAdds t_regret t_z t_s t_comes t_begins)) C S (c_X8_isIn l G x2 (0 : Int32) (5 : Int32) r3 hq3) (u_X8_set_X8_isIn_55 hts) rfl (by decide +kernel) [none, none, none, none] (by decide +kernel) rfl rfl rfl hl.1 rfl (Nat.le_of_ble_eq_true rfl) dX8_set_11 (fun H locs S => ?_)
    refine lv_if_ne (tgt := 19) (pc := 14) hx hb dX8_set_14 (by decide) (fun c4 => ?_) (fun c4 => ?_)
    · have hf := ifn c4 hf
      refine lv_iload_n (pc := 19) hx hb dX8_set_19 rfl (lv_at hl 2 rfl) ?_
      refine lv_iload_n (pc := 20) hx hb dX8_set_20 rfl (lv_at hl 3 rfl) ?_
      obtain ⟨r5, hq5, hf⟩ := bd_e hf
      refine x_sI (pc := 21) (As := [.int x2, .int x3]) (rest := []) (isC := []) (ws' := (w_X8_set G a_t a_t_s a_t_image a_t_mind a_t_aside a_t_text a_t_read a_t_comes a_t_begins a_t_latest a_t_move a_t_sort a_t_items a_t_cell a_t_carried t_isKept t_work t_kind t_letters t_at t_fault t_back t_waits t_miles t_loads t_bestRound t_bestPlace t_bestAdds t_regret t_z t_s t_comes t_begins)) C S (c_X8_isTold l G x2 x3 r5 hq5) (u_X8_set_X8_isTold_114 hts) rfl (by decide +kernel) [none, none, none, none] (by decide +kernel) rfl rfl rfl hl.1 rfl (Nat.le_of_ble_eq_true rfl) dX8_set_21 (fun H locs S => ?_)
      refine lv_if_eq (tgt := 57) (pc := 24) hx hb dX8_set_24 (by decide) (fun c6 => ?_) (fun c6 => ?_)
      · have hf := ifp c6 hf
        refine lv_bipush (pc := 57) hx hb dX8_set_57 bc_m2 ?_
        cases hf
        exact x_iret (pc := 59) C S dX8_set_59
      · have hf := ifn c6 hf
        refine lv_iload_n (pc := 27) hx hb dX8_set_27 rfl (lv_at hl 2 rfl) ?_
        refine lv_iconst (pc := 28) hx hb dX8_set_28 ic_3 ?_
        refine lv_icmp_ne (tgt := 42) (pc := 29) hx hb dX8_set_29 (by decide) (fun c7 => ?_) (fun c7 => ?_)
        · have hf := ifn c7 hf
          exact k_X8_set_42 C (t_isKept) (t_work) (t_kind) (t_letters) (t_at) (t_fault) (t_back) (t_waits) (t_miles) (t_loads) (t_bestRound) (t_bestPlace) (t_bestAdds) (t_regret) (t_z) (t_s) (t_comes) (t_begins) (x1) (x2) (x3) hf S (lv_sub hl [0, 1, 2, 3] rfl)
        · have hf := ifp c7 hf
          refine lv_iload_n (pc := 32) hx hb dX8_set_32 rfl (lv_at hl 3 rfl) ?_
          refine lv_aload_n (pc := 33) hx hb dX8_set_33 rfl (lv_at hl 0 rfl) ?_
          refine lv_iload_n (pc := 34) hx hb dX8_set_34 rfl (lv_at hl 1 rfl) ?_
          refine lv_iconst (pc := 35) hx hb dX8_set_35 ic_4 ?_
          obtain ⟨r8, hq8, hf⟩ := bd_e hf
          refine x_vI (pc := 36) (As := [.int x1, .int (4 : Int32)]) (rest := [.int x3]) (isC := [0, 1]) (ws' := (w_X8_set G a_t a_t_s a_t_image a_t_mind a_t_aside a_t_text a_t_read a_t_comes a_t_begins a_t_latest a_t_move a_t_sort a_t_items a_t_cell a_t_carried t_isKept t_work t_kind t_letters t_at t_fault t_back t_waits t_miles t_loads t_bestRound t_bestPlace t_bestAdds t_regret t_z t_s t_comes t_begins)) C S (c_X8_stopAt l G a_t a_t_s a_t_image a_t_mind a_t_aside a_t_text a_t_read a_t_comes a_t_begins a_t_latest a_t_move a_t_sort a_t_items a_t_cell a_t_carried t_isKept t_work t_kind t_letters t_at t_fault t_back t_waits t_miles t_loads t_bestRound t_bestPlace t_bestAdds t_regret t_z t_s x1 (4 : Int32) r8 hq8) (u_X8_set_X8_stopAt_78 hts) (ci := 8) rfl 0 rfl rfl (by decide +kernel) [some 0, some 1, none, none] (by decide +kernel) rfl rfl rfl hl.1 rfl (Nat.le_of_ble_eq_true rfl) dX8_set_36 (fun H locs S => ?_)
          refine lv_icmp_gt (tgt := 57) (pc := 39) hx hb dX8_set_39 (by decide) (fun c9 => ?_) (fun c9 => ?_)
          · have hf := ifp c9 hf
            refine lv_bipush (pc := 57) hx hb dX8_set_57 bc_m2 ?_
            cases hf
            exact x_iret (pc := 59) C S dX8_set_59
          · have hf := ifn c9 hf
            exact k_X8_set_42 C (t_isKept) (t_work) (t_kind) (t_letters) (t_at) (t_fault) (t_back) (t_waits) (t_miles) (t_loads) (t_bestRound) (t_bestPlace) (t_bestAdds) (t_regret) (t_z) (t_s) (t_comes) (t_begins) (x1) (x2) (x3) hf S (lv_sub hl [0, 1, 2, 3] rfl)
    · have hf := ifp c4 hf
      refine lv_iconst (pc := 17) hx hb dX8_set_17 ic_m1 ?_
      cases hf
      exact x_iret (pc := 18) C S dX8_set_18
end

abbrev rm_X8_shift : Room := { frames := 6, cells := 0, slots := 0, locals := 147 }
abbrev kw_X8_shift : Cond := .code yX8_shift cX8_shift 5 (some .int)
abbrev w_X8_shift (G : GE) (a_t a_t_s a_t_image a_t_mind a_t_aside a_t_text a_t_read a_t_comes a_t_begins a_t_latest a_t_move a_t_sort a_t_items a_t_cell a_t_carried : Nat) (t_isKept : Int32) (t_work : Int32) (t_kind : Int32) (t_letters : Int32) (t_at : Int32) (t_fault : Int32) (t_back : Int32) (t_waits : Int32) (t_miles : Int32) (t_loads : Int32) (t_bestRound : Int32) (t_bestPlace : Int32) (t_bestAdds : Int32) (t_regret : Int32) (t_z : Int32) (t_s : Nat → Int32) (t_comes : Nat → Int32) (t_begins : Nat → Int32) : va_W := [(a_t, ob 8 [.ref a_t_s, .ref a_t_image, .ref a_t_mind, .ref a_t_aside, .int t_isKept, .int t_work, .int t_kind, .ref a_t_text, .ref a_t_read, .int t_letters, .int t_at, .int t_fault, .ref a_t_comes, .ref a_t_begins, .ref a_t_latest, .int t_back, .int t_waits, .int t_miles, .int t_loads, .int t_bestRound, .int t_bestPlace, .int t_bestAdds, .int t_regret, .ref a_t_move, .ref a_t_sort, .ref a_t_items, .ref a_t_cell, .ref a_t_carried, .int t_z]), (a_t_s, aI G 258 t_s), (a_t_comes, aI G 16 t_comes), (a_t_begins, aI G 16 t_begins)]
theorem u_X8_shift_X8_isStop_151 {s : State} {args : Array Value} (hts : ∀ w ∈ WU, w.before args s = true) : CallW rm_X8_shift s args RX8 RX8 151 yX8_isStop cX8_isStop 2 (some .boolean) (kw_X8_isStop :: WU) rm_X8_isStop 0 0 1 := cwV 1 hts (gV qm_8_151 qi_X8_isStop ql_X8_isStop qn_8 qc_X8_isStop) rfl rfl rfl (by decide +kernel) ⟨Nat.le_of_ble_eq_true rfl, Nat.le_of_ble_eq_true rfl⟩
theorem u_X8_shift_X8_isRound_162 {s : State} {args : Array Value} (hts : ∀ w ∈ WU, w.before args s = true) : CallB rm_X8_shift s args RX8 162 yX8_isRound cX8_isRound 1 (some .boolean) (kw_X8_isRound :: WU) rm_X8_isRound 0 0 1 ∧ (Cond.static yX8_isRound).before args s = true := va_cwS 1 hts (gS qm_8_162 qs_X8_isRound qn_8 qc_X8_isRound) rfl rfl rfl (by decide +kernel) ⟨Nat.le_of_ble_eq_true rfl, Nat.le_of_ble_eq_true rfl⟩
theorem u_X8_shift_X8_roundOf_157 {s : State} {args : Array Value} (hts : ∀ w ∈ WU, w.before args s = true) : CallW rm_X8_shift s args RX8 RX8 157 yX8_roundOf cX8_roundOf 3 (some .int) (kw_X8_roundOf :: WU) rm_X8_roundOf 0 0 1 := cwV 1 hts (gV qm_8_157 qi_X8_roundOf ql_X8_roundOf qn_8 qc_X8_roundOf) rfl rfl rfl (by decide +kernel) ⟨Nat.le_of_ble_eq_true rfl, Nat.le_of_ble_eq_true rfl⟩
theorem u_X8_shift_X8_roundAt_59 {s : State} {args : Array Value} (hts : ∀ w ∈ WU, w.before args s = true) : CallW rm_X8_shift s args RX8 RX8 59 yX8_roundAt cX8_roundAt 3 (some .int) (kw_X8_roundAt :: WU) rm_X8_roundAt 0 0 2 := cwV 2 hts (gV qm_8_59 qi_X8_roundAt ql_X8_roundAt qn_8 qc_X8_roundAt) rfl rfl rfl (by decide +kernel) ⟨Nat.le_of_ble_eq_true rfl, Nat.le_of_ble_eq_true rfl⟩
theorem u_X8_shift_X8_isIn_55 {s : State} {args : Array Value} (hts : ∀ w ∈ WU, w.before args s = true) : CallB rm_X8_shift s args RX8 55 yX8_isIn cX8_isIn 3 (some .boolean) (kw_X8_isIn :: WU) rm_X8_isIn 0 0 3 ∧ (Cond.static yX8_isIn).before args s = true := va_cwS 3 hts (gS qm_8_55 qs_X8_isIn qn_8 qc_X8_isIn) rfl rfl rfl (by decide +kernel) ⟨Nat.le_of_ble_eq_true rfl, Nat.le_of_ble_eq_true rfl⟩
theorem u_X8_shift_X8_placeIn_66 {s : State} {args : Array Value} (hts : ∀ w ∈ WU, w.before args s = true) : CallW rm_X8_shift s args RX8 RX8 66 yX8_placeIn cX8_placeIn 4 (some .int) (kw_X8_placeIn :: WU) rm_X8_placeIn 0 0 2 := cwV 2 hts (gV qm_8_66 qi_X8_placeIn ql_X8_placeIn qn_8 qc_X8_placeIn) rfl rfl rfl (by decide +kernel) ⟨Nat.le_of_ble_eq_true rfl, Nat.le_of_ble_eq_true rfl⟩
theorem u_X8_shift_X8_shiftGains_227 {s : State} {args : Array Value} (hts : ∀ w ∈ WU, w.before args s = true) : CallW rm_X8_shift s args RX8 RX8 227 yX8_shiftGains cX8_shiftGains 8 (some .int) (kw_X8_shiftGains :: WU) rm_X8_shiftGains 0 0 3 := cwV 3 hts (gV qm_8_227 qi_X8_shiftGains ql_X8_shiftGains qn_8 qc_X8_shiftGains) rfl rfl rfl (by decide +kernel) ⟨Nat.le_of_ble_eq_true rfl, Nat.le_of_ble_eq_true rfl⟩
section
variable {p : Program} {l : Launch} {e : Env} {s : State} {m : MethodId} {args : Array Value} {below : List Frame} {meth : Method} {c : Code} {A : Nat → Prop} {G : GE} {a_t a_t_s a_t_image a_t_mind a_t_aside a_t_text a_t_read a_t_comes a_t_begins a_t_latest a_t_move a_t_sort a_t_items a_t_cell a_t_carried : Nat} {r : Int32} {z_t_s : Nat → Int32} {z_t_comes : Nat → Int32} {z_t_begins : Nat → Int32} {z_t_back : Int32} {z_t_waits : Int32} {z_t_loads : Int32}
set_option maxRecDepth 100000 in
set_option maxHeartbeats 4000000 in
theorem k_X8_shift_78 (C : Cx p s m args meth c cX8_shift (some .int) 5 RX8 G A) (t_isKept : Int32) (t_work : Int32) (t_kind : Int32) (t_letters : Int32) (t_at : Int32) (t_fault : Int32) (t_back : Int32) (t_waits : Int32) (t_miles : Int32) (t_loads : Int32) (t_bestRound : Int32) (t_bestPlace : Int32) (t_bestAdds : Int32) (t_regret : Int32) (t_z : Int32) (t_s : Nat → Int32) (t_comes : Nat → Int32) (t_begins : Nat → Int32) (x1 : Int32) (x2 : Int32) (x3 : Int32) {H : Heap} {locs : List Loc} {ls : Array Slot} (hf : b_X8_shift_78 x1 x2 x3 t_s t_comes t_begins t_back t_waits t_loads = some (r, z_t_s, z_t_comes, z_t_begins, z_t_back, z_t_waits, z_t_loads)) (S : St G A s.heap H locs (w_X8_shift G a_t a_t_s a_t_image a_t_mind a_t_aside a_t_text a_t_read a_t_comes a_t_begins a_t_latest a_t_move a_t_sort a_t_items a_t_cell a_t_carried t_isKept t_work t_kind t_letters t_at t_fault t_back t_waits t_miles t_loads t_bestRound t_bestPlace t_bestAdds t_regret t_z t_s t_comes t_begins)) (hl : lv_has ls 5 [(0, .ref a_t), (1, .int x1), (2, .int x2), (3, .int x3)]) : W p l e rm_X8_shift s m args below meth c H locs 0 0 (QI G below args s A r (w_X8_shift G a_t a_t_s a_t_image a_t_mind a_t_aside a_t_text a_t_read a_t_comes a_t_begins a_t_latest a_t_move a_t_sort a_t_items a_t_cell a_t_carried t_isKept t_work t_kind t_letters t_at t_fault z_t_back z_t_waits t_miles z_t_loads t_bestRound t_bestPlace t_bestAdds t_regret t_z z_t_s z_t_comes z_t_begins)) (F0 m 78 ls []) := by
  unfold b_X8_shift_78 at hf
  have hx := C.1
  have hb := C.2.1
  have hown := C.2.2.2.2.1
  have hts := C.2.2.2.2.2.1
  have hN := C.2.2.2.2.2.2.2.2.2.2
  refine lv_aload_n (pc := 78) hx hb dX8_shift_78 rfl (lv_at hl 0 rfl) ?_
  refine lv_iload_n (pc := 79) hx hb dX8_shift_79 rfl (lv_at hl 1 rfl) ?_
  refine lv_iload_n (pc := 80) hx hb dX8_shift_80 rfl (lv_at hl 2 rfl) ?_
  refine lv_iload_n (pc := 81) hx hb dX8_shift_81 rfl (lv_at hl 3 rfl) ?_
  obtain ⟨⟨r1, o1_t_s, o1_t_comes, o1_t_begins, o1_t_back, o1_t_waits, o1_t_loads⟩, hq1, hf⟩ := bd_e hf
  refine x_vI (pc := 82) (As := [.int x1, .int x2, .int x3]) (rest := []) (isC := [0, 1, 2, 3]) (ws' := (w_X8_shift G a_t a_t_s a_t_image a_t_mind a_t_aside a_t_text a_t_read a_t_comes a_t_begins a_t_latest a_t_move a_t_sort a_t_items a_t_cell a_t_carried t_isKept t_work t_kind t_letters t_at t_fault o1_t_back o1_t_waits t_miles o1_t_loads t_bestRound t_bestPlace t_bestAdds t_regret t_z o1_t_s o1_t_comes o1_t_begins)) C S (c_X8_shiftGains l G a_t a_t_s a_t_image a_t_mind a_t_aside a_t_text a_t_read a_t_comes a_t_begins a_t_latest a_t_move a_t_sort a_t_items a_t_cell a_t_carried t_isKept t_work t_kind t_letters t_at t_fault t_back t_waits t_miles t_loads t_bestRound t_bestPlace t_bestAdds t_regret t_z t_s t_comes t_begins x1 x2 x3 r1 o1_t_s o1_t_comes o1_t_begins o1_t_back o1_t_waits o1_t_loads hq1) (u_X8_shift_X8_shiftGains_227 hts) (ci := 8) rfl 0 rfl rfl (by decide +kernel) [some 0, some 1, some 2, some 3] (by decide +kernel) rfl rfl rfl hl.1 rfl (Nat.le_of_ble_eq_true rfl) dX8_shift_82 (fun H locs S => ?_)
  cases hf
  exact x_iret (pc := 85) C S dX8_shift_85
set_option maxRecDepth 100000 in
set_option maxHeartbeats 4000000 in
theorem k_X8_shift_51 (C : Cx p s m args meth c cX8_shift (some .int) 5 RX8 G A) (t_isKept : Int32) (t_work : Int32) (t_kind : Int32) (t_letters : Int32) (t_at : Int32) (t_fault : Int32) (t_back : Int32) (t_waits : Int32) (t_miles : Int32) (t_loads : Int32) (t_bestRound : Int32) (t_bestPlace : Int32) (t_bestAdds : Int32) (t_regret : Int32) (t_z : Int32) (t_s : Nat → Int32) (t_comes : Nat → Int32) (t_begins : Nat → Int32) (x1 : Int32) (x2 : Int32) (x3 : Int32) (x4 : Int32) (y0 : Int32) (y1 : Int32) (y2 : Int32) (y3 : Int32) {H : Heap} {locs : List Loc} {ls : Array Slot} (hf : b_X8_shift_51 x1 x2 x3 x4 y0 y1 y2 y3 t_s t_comes t_begins t_back t_waits t_loads = some (r, z_t_s, z_t_comes, z_t_begins, z_t_back, z_t_waits, z_t_loads)) (S : St G A s.heap H locs (w_X8_shift G a_t a_t_s a_t_image a_t_mind a_t_aside a_t_text a_t_read a_t_comes a_t_begins a_t_latest a_t_move a_t_sort a_t_items a_t_cell a_t_carried t_isKept t_work t_kind t_letters t_at t_fault t_back t_waits t_miles t_loads t_bestRound t_bestPlace t_bestAdds t_regret t_z t_s t_comes t_begins)) (hl : lv_has ls 5 [(0, .ref a_t), (1, .int x1), (2, .int x2), (3, .int x3), (4, .int x4)]) : W p l e rm_X8_shift s m args below meth c H locs 0 0 (QI G below args s A r (w_X8_shift G a_t a_t_s a_t_image a_t_mind a_t_aside a_t_text a_t_read a_t_comes a_t_begins a_t_latest a_t_move a_t_sort a_t_items a_t_cell a_t_carried t_isKept t_work t_kind t_letters t_at t_fault z_t_back z_t_waits t_miles z_t_loads t_bestRound t_bestPlace t_bestAdds t_regret t_z z_t_s z_t_comes z_t_begins)) (F0 m 51 ls [.int y3, .int y2, .int y1, .int y0]) := by
  unfold b_X8_shift_51 at hf
  have hx := C.1
  have hb := C.2.1
  have hown := C.2.2.2.2.1
  have hts := C.2.2.2.2.2.1
  have hN := C.2.2.2.2.2.2.2.2.2.2
  refine lv_isub (pc := 51) hx hb dX8_shift_51 ?_
  obtain ⟨r1, hq1, hf⟩ := bd_e hf
  refine x_sI (pc := 52) (As := [.int y0, .int y1, .int (y2 - y3)]) (rest := []) (isC := []) (ws' := (w_X8_shift G a_t a_t_s a_t_image a_t_mind a_t_aside a_t_text a_t_read a_t_comes a_t_begins a_t_latest a_t_move a_t_sort a_t_items a_t_cell a_t_carried t_isKept t_work t_kind t_letters t_at t_fault t_back t_waits t_miles t_loads t_bestRound t_bestPlace t_bestAdds t_regret t_z t_s t_comes t_begins)) C S (c_X8_isIn l G y0 y1 (y2 - y3) r1 hq1) (u_X8_shift_X8_isIn_55 hts) rfl (by decide +kernel) [none, none, none, none] (by decide +kernel) rfl rfl rfl hl.1 rfl (Nat.le_of_ble_eq_true rfl) dX8_shift_52 (fun H locs S => ?_)
  refine lv_if_eq (tgt := 75) (pc := 55) hx hb dX8_shift_55 (by decide) (fun c2 => ?_) (fun c2 => ?_)
  · have hf := ifp c2 hf
    refine lv_bipush (pc := 75) hx hb dX8_shift_75 bc_m2 ?_
    cases hf
    exact x_iret (pc := 77) C S dX8_shift_77
  · have hf := ifn c2 hf
    refine lv_iload_n (pc := 58) hx hb dX8_shift_58 rfl (lv_at hl 2 rfl) ?_
    refine lv_iload (pc := 59) hx hb dX8_shift_59 (lv_at hl 4 rfl) ?_
    refine lv_icmp_ne (tgt := 78) (pc := 61) hx hb dX8_shift_61 (by decide) (fun c3 => ?_) (fun c3 => ?_)
    · have hf := ifn c3 hf
      exact k_X8_shift_78 C (t_isKept) (t_work) (t_kind) (t_letters) (t_at) (t_fault) (t_back) (t_waits) (t_miles) (t_loads) (t_bestRound) (t_bestPlace) (t_bestAdds) (t_regret) (t_z) (t_s) (t_comes) (t_begins) (x1) (x2) (x3) hf S (lv_sub hl [0, 1, 2, 3] rfl)
    · have hf := ifp c3 hf
      refine lv_iload_n (pc := 64) hx hb dX8_shift_64 rfl (lv_at hl 3 rfl) ?_
      refine lv_aload_n (pc := 65) hx hb dX8_shift_65 rfl (lv_at hl 0 rfl) ?_
      refine lv_iload (pc := 66) hx hb dX8_shift_66 (lv_at hl 4 rfl) ?_
      refine lv_iload_n (pc := 68) hx hb dX8_shift_68 rfl (lv_at hl 1 rfl) ?_
      obtain ⟨r4, hq4, hf⟩ := bd_e hf
      refine x_vI (pc := 69) (As := [.int x4, .int x1]) (rest := [.int x3]) (isC := [0, 1]) (ws' := (w_X8_shift G a_t a_t_s a_t_image a_t_mind a_t_aside a_t_text a_t_read a_t_comes a_t_begins a_t_latest a_t_move a_t_sort a_t_items a_t_cell a_t_carried t_isKept t_work t_kind t_letters t_at t_fault t_back t_waits t_miles t_loads t_bestRound t_bestPlace t_bestAdds t_regret t_z t_s t_comes t_begins)) C S (c_X8_placeIn l G a_t a_t_s a_t_image a_t_mind a_t_aside a_t_text a_t_read a_t_comes a_t_begins a_t_latest a_t_move a_t_sort a_t_items a_t_cell a_t_carried t_isKept t_work t_kind t_letters t_at t_fault t_back t_waits t_miles t_loads t_bestRound t_bestPlace t_bestAdds t_regret t_z t_s x4 x1 r4 hq4) (u_X8_shift_X8_placeIn_66 hts) (ci := 8) rfl 0 rfl rfl (by decide +kernel) [some 0, some 1, none, none] (by decide +kernel) rfl rfl rfl hl.1 rfl (Nat.le_of_ble_eq_true rfl) dX8_shift_69 (fun H locs S => ?_)
      refine lv_icmp_ne (tgt := 78) (pc := 72) hx hb dX8_shift_72 (by decide) (fun c5 => ?_) (fun c5 => ?_)
      · have hf := ifn c5 hf
        exact k_X8_shift_78 C (t_isKept) (t_work) (t_kind) (t_letters) (t_at) (t_fault) (t_back) (t_waits) (t_miles) (t_loads) (t_bestRound) (t_bestPlace) (t_bestAdds) (t_regret) (t_z) (t_s) (t_comes) (t_begins) (x1) (x2) (x3) hf S (lv_sub hl [0, 1, 2, 3] rfl)
      · have hf := ifp c5 hf
        refine lv_bipush (pc := 75) hx hb dX8_shift_75 bc_m2 ?_
        cases hf
        exact x_iret (pc := 77) C S dX8_shift_77
set_option maxRecDepth 100000 in
set_option maxHeartbeats 4000000 in
theorem c_X8_shift (l : Launch) (G : GE) (a_t a_t_s a_t_image a_t_mind a_t_aside a_t_text a_t_read a_t_comes a_t_begins a_t_latest a_t_move a_t_sort a_t_items a_t_cell a_t_carried : Nat) (t_isKept : Int32) (t_work : Int32) (t_kind : Int32) (t_letters : Int32) (t_at : Int32) (t_fault : Int32) (t_back : Int32) (t_waits : Int32) (t_miles : Int32) (t_loads : Int32) (t_bestRound : Int32) (t_bestPlace : Int32) (t_bestAdds : Int32) (t_regret : Int32) (t_z : Int32) (t_s : Nat → Int32) (t_comes : Nat → Int32) (t_begins : Nat → Int32) (x1 : Int32) (x2 : Int32) (x3 : Int32) (r : Int32) (z_t_s : Nat → Int32) (z_t_comes : Nat → Int32) (z_t_begins : Nat → Int32) (z_t_back : Int32) (z_t_waits : Int32) (z_t_loads : Int32) (hf : f_X8_shift t_s t_comes t_begins t_back t_waits t_loads x1 x2 x3 = some (r, z_t_s, z_t_comes, z_t_begins, z_t_back, z_t_waits, z_t_loads)) : CI l G yX8_shift kw_X8_shift rm_X8_shift [.ref a_t, .int x1, .int x2, .int x3] (w_X8_shift G a_t a_t_s a_t_image a_t_mind a_t_aside a_t_text a_t_read a_t_comes a_t_begins a_t_latest a_t_move a_t_sort a_t_items a_t_cell a_t_carried t_isKept t_work t_kind t_letters t_at t_fault t_back t_waits t_miles t_loads t_bestRound t_bestPlace t_bestAdds t_regret t_z t_s t_comes t_begins) r (w_X8_shift G a_t a_t_s a_t_image a_t_mind a_t_aside a_t_text a_t_read a_t_comes a_t_begins a_t_latest a_t_move a_t_sort a_t_items a_t_cell a_t_carried t_isKept t_work t_kind t_letters t_at t_fault z_t_back z_t_waits t_miles z_t_loads t_bestRound t_bestPlace t_bestAdds t_regret t_z z_t_s z_t_comes z_t_begins) := by
  refine en_I (cc := cX8_shift) (maxL := 5) (ret := (some .int)) (by decide +kernel) (Nat.le_of_ble_eq_true rfl) ?_
  intro p e s m args below meth c A ls C S hl
  have hl : lv_has ls 5 [(0, .ref a_t), (1, .int x1), (2, .int x2), (3, .int x3)] := hl
  have C : Cx p s m args meth c cX8_shift (some .int) 5 RX8 G A := C
  unfold f_X8_shift at hf
  have hx := C.1
  have hb := C.2.1
  have hown := C.2.2.2.2.1
  have hts := C.2.2.2.2.2.1
  have hN := C.2.2.2.2.2.2.2.2.2.2
  refine lv_aload_n (pc := 0) hx hb dX8_shift_0 rfl (lv_at hl 0 rfl) ?_
  refine lv_iload_n (pc := 1) hx hb dX8_shift_1 rfl (lv_at hl 1 rfl) ?_
  obtain ⟨r1, hq1, hf⟩ := bd_e hf
  refine x_vI (pc := 2) (As := [.int x1]) (rest := []) (isC := [0, 1]) (ws' := (w_X8_shift G a_t a_t_s a_t_image a_t_mind a_t_aside a_t_text a_t_read a_t_comes a_t_begins a_t_latest a_t_move a_t_sort a_t_items a_t_cell a_t_carried t_isKept t_work t_kind t_letters t_at t_fault t_back t_waits t_miles t_loads t_bestRound t_bestPlace t_bestAdds t_regret t_z t_s t_comes t_begins)) C S (c_X8_isStop l G a_t a_t_s a_t_image a_t_mind a_t_aside a_t_text a_t_read a_t_comes a_t_begins a_t_latest a_t_move a_t_sort a_t_items a_t_cell a_t_carried t_isKept t_work t_kind t_letters t_at t_fault t_back t_waits t_miles t_loads t_bestRound t_bestPlace t_bestAdds t_regret t_z t_s x1 r1 hq1) (u_X8_shift_X8_isStop_151 hts) (ci := 8) rfl 0 rfl rfl (by decide +kernel) [some 0, some 1, none, none] (by decide +kernel) rfl rfl rfl hl.1 rfl (Nat.le_of_ble_eq_true rfl) dX8_shift_2 (fun H locs S => ?_)
  refine lv_if_eq (tgt := 15) (pc := 5) hx hb dX8_shift_5 (by decide) (fun c2 => ?_) (fun c2 => ?_)
  · have hf := ifp c2 hf
    refine lv_iconst (pc := 15) hx hb dX8_shift_15 ic_m1 ?_
    cases hf
    exact x_iret (pc := 16) C S dX8_shift_16
  · have hf := ifn c2 hf
    refine lv_iload_n (pc := 8) hx hb dX8_shift_8 rfl (lv_at hl 2 rfl) ?_
    obtain ⟨r3, hq3, hf⟩ := bd_e hf
    refine x_sI (pc := 9) (As := [.int x2]) (rest := []) (isC := []) (ws' := (w_X8_shift G a_t a_t_s a_t_image a_t_mind a_t_aside a_t_text a_t_read a_t_comes a_t_begins a_t_latest a_t_move a_t_sort a_t_items a_t_cell a_t_carried t_isKept t_work t_kind t_letters t_at t_fault t_back t_waits t_miles t_loads t_bestRound t_bestPlace t_bestAdds t_regret t_z t_s t_comes t_begins)) C S (c_X8_isRound l G x2 r3 hq3) (u_X8_shift_X8_isRound_162 hts) rfl (by decide +kernel) [none, none, none, none] (by decide +kernel) rfl rfl rfl hl.1 rfl (Nat.le_of_ble_eq_true rfl) dX8_shift_9 (fun H locs S => ?_)
    refine lv_if_ne (tgt := 17) (pc := 12) hx hb dX8_shift_12 (by decide) (fun c4 => ?_) (fun c4 => ?_)
    · have hf := ifn c4 hf
      refine lv_aload_n (pc := 17) hx hb dX8_shift_17 rfl (lv_at hl 0 rfl) ?_
      refine lv_iload_n (pc := 18) hx hb dX8_shift_18 rfl (lv_at hl 1 rfl) ?_
      obtain ⟨r5, hq5, hf⟩ := bd_e hf
      refine x_vI (pc := 19) (As := [.int x1]) (rest := []) (isC := [0, 1]) (ws' := (w_X8_shift G a_t a_t_s a_t_image a_t_mind a_t_aside a_t_text a_t_read a_t_comes a_t_begins a_t_latest a_t_move a_t_sort a_t_items a_t_cell a_t_carried t_isKept t_work t_kind t_letters t_at t_fault t_back t_waits t_miles t_loads t_bestRound t_bestPlace t_bestAdds t_regret t_z t_s t_comes t_begins)) C S (c_X8_roundOf l G a_t a_t_s a_t_image a_t_mind a_t_aside a_t_text a_t_read a_t_comes a_t_begins a_t_latest a_t_move a_t_sort a_t_items a_t_cell a_t_carried t_isKept t_work t_kind t_letters t_at t_fault t_back t_waits t_miles t_loads t_bestRound t_bestPlace t_bestAdds t_regret t_z t_s x1 r5 hq5) (u_X8_shift_X8_roundOf_157 hts) (ci := 8) rfl 0 rfl rfl (by decide +kernel) [some 0, some 1, none, none] (by decide +kernel) rfl rfl rfl hl.1 rfl (Nat.le_of_ble_eq_true rfl) dX8_shift_19 (fun H locs S => ?_)
      refine lv_istore (pc := 22) (lv' := [(4, .int r5), (0, .ref a_t), (1, .int x1), (2, .int x2), (3, .int x3)]) hx hb dX8_shift_22 hl (by decide) rfl (fun ls hl => ?_)
      refine lv_iload (pc := 24) hx hb dX8_shift_24 (lv_at hl 0 rfl) ?_
      refine lv_if_ge (tgt := 32) (pc := 26) hx hb dX8_shift_26 (by decide) (fun c6 => ?_) (fun c6 => ?_)
      · have hf := ifp c6 hf
        refine lv_iload_n (pc := 32) hx hb dX8_shift_32 rfl (lv_at hl 4 rfl) ?_
        refine lv_iconst (pc := 33) hx hb dX8_shift_33 ic_0 ?_
        refine lv_aload_n (pc := 34) hx hb dX8_shift_34 rfl (lv_at hl 1 rfl) ?_
        refine lv_iload_n (pc := 35) hx hb dX8_shift_35 rfl (lv_at hl 3 rfl) ?_
        refine lv_iconst (pc := 36) hx hb dX8_shift_36 ic_3 ?_
        obtain ⟨r7, hq7, hf⟩ := bd_e hf
        refine x_vI (pc := 37) (As := [.int x2, .int (3 : Int32)]) (rest := [.int (0 : Int32), .int x3]) (isC := [0, 1]) (ws' := (w_X8_shift G a_t a_t_s a_t_image a_t_mind a_t_aside a_t_text a_t_read a_t_comes a_t_begins a_t_latest a_t_move a_t_sort a_t_items a_t_cell a_t_carried t_isKept t_work t_kind t_letters t_at t_fault t_back t_waits t_miles t_loads t_bestRound t_bestPlace t_bestAdds t_regret t_z t_s t_comes t_begins)) C S (c_X8_roundAt l G a_t a_t_s a_t_image a_t_mind a_t_aside a_t_text a_t_read a_t_comes a_t_begins a_t_latest a_t_move a_t_sort a_t_items a_t_cell a_t_carried t_isKept t_work t_kind t_letters t_at t_fault t_back t_waits t_miles t_loads t_bestRound t_bestPlace t_bestAdds t_regret t_z t_s x2 (3 : Int32) r7 hq7) (u_X8_shift_X8_roundAt_59 hts) (ci := 8) rfl 0 rfl rfl (by decide +kernel) [some 0, some 1, none, none] (by decide +kernel) rfl rfl rfl hl.1 rfl (Nat.le_of_ble_eq_true rfl) dX8_shift_37 (fun H locs S => ?_)
        refine lv_iload_n (pc := 40) hx hb dX8_shift_40 rfl (lv_at hl 3 rfl) ?_
        refine lv_iload (pc := 41) hx hb dX8_shift_41 (lv_at hl 0 rfl) ?_
        refine lv_icmp_ne (tgt := 50) (pc := 43) hx hb dX8_shift_43 (by decide) (fun c8 => ?_) (fun c8 => ?_)
        · have hf := ifn c8 hf
          refine lv_iconst (pc := 50) hx hb dX8_shift_50 ic_0 ?_
          exact k_X8_shift_51 C (t_isKept) (t_work) (t_kind) (t_letters) (t_at) (t_fault) (t_back) (t_waits) (t_miles) (t_loads) (t_bestRound) (t_bestPlace) (t_bestAdds) (t_regret) (t_z) (t_s) (t_comes) (t_begins) (x1) (x2) (x3) (r5) (x3) ((0 : Int32)) (r7) ((0 : Int32)) hf S (lv_sub hl [1, 2, 3, 4, 0] rfl)
        · have hf := ifp c8 hf
          refine lv_iconst (pc := 46) hx hb dX8_shift_46 ic_1 ?_
          refine lv_goto (tgt := 51) (pc := 47) hx hb dX8_shift_47 (by decide) ?_
          exact k_X8_shift_51 C (t_isKept) (t_work) (t_kind) (t_letters) (t_at) (t_fault) (t_back) (t_waits) (t_miles) (t_loads) (t_bestRound) (t_bestPlace) (t_bestAdds) (t_regret) (t_z) (t_s) (t_comes) (t_begins) (x1) (x2) (x3) (r5) (x3) ((0 : Int32)) (r7) ((1 : Int32)) hf S (lv_sub hl [1, 2, 3, 4, 0] rfl)
      · have hf := ifn c6 hf
        refine lv_bipush (pc := 29) hx hb dX8_shift_29 bc_m3 ?_
        cases hf
        exact x_iret (pc := 31) C S dX8_shift_31
    · have hf := ifp c4 hf
      refine lv_iconst (pc := 15) hx hb dX8_shift_15 ic_m1 ?_
      cases hf
      exact x_iret (pc := 16) C S dX8_shift_16
end

abbrev rm_X8_slide : Room := { frames := 2, cells := 0, slots := 0, locals := 42 }
abbrev kw_X8_slide : Cond := .code yX8_slide cX8_slide 7 (some .int)
abbrev w_X8_slide (G : GE) (a_t a_t_s a_t_image a_t_mind a_t_aside a_t_text a_t_read a_t_comes a_t_begins a_t_latest a_t_move a_t_sort a_t_items a_t_cell a_t_carried : Nat) (t_isKept : Int32) (t_work : Int32) (t_kind : Int32) (t_letters : Int32) (t_at : Int32) (t_fault : Int32) (t_back : Int32) (t_waits : Int32) (t_miles : Int32) (t_loads : Int32) (t_bestRound : Int32) (t_bestPlace : Int32) (t_bestAdds : Int32) (t_regret : Int32) (t_z : Int32) (t_sort : Nat → Int32) (t_items : Nat → Int32) (t_cell : Nat → Int64) (t_carried : Nat → Int64) : va_W := [(a_t, ob 8 [.ref a_t_s, .ref a_t_image, .ref a_t_mind, .ref a_t_aside, .int t_isKept, .int t_work, .int t_kind, .ref a_t_text, .ref a_t_read, .int t_letters, .int t_at, .int t_fault, .ref a_t_comes, .ref a_t_begins, .ref a_t_latest, .int t_back, .int t_waits, .int t_miles, .int t_loads, .int t_bestRound, .int t_bestPlace, .int t_bestAdds, .int t_regret, .ref a_t_move, .ref a_t_sort, .ref a_t_items, .ref a_t_cell, .ref a_t_carried, .int t_z]), (a_t_sort, aI G 6 t_sort), (a_t_items, aI G 6 t_items), (a_t_cell, aJ G 360 t_cell), (a_t_carried, aJ G 60 t_carried)]
theorem u_X8_slide_X8_isTape_285 {s : State} {args : Array Value} (hts : ∀ w ∈ WU, w.before args s = true) : CallB rm_X8_slide s args RX8 285 yX8_isTape cX8_isTape 1 (some .boolean) (kw_X8_isTape :: WU) rm_X8_isTape 0 0 1 ∧ (Cond.static yX8_isTape).before args s = true := va_cwS 1 hts (gS qm_8_285 qs_X8_isTape qn_8 qc_X8_isTape) rfl rfl rfl (by decide +kernel) ⟨Nat.le_of_ble_eq_true rfl, Nat.le_of_ble_eq_true rfl⟩
section
variable {p : Program} {l : Launch} {e : Env} {s : State} {m : MethodId} {args : Array Value} {below : List Frame} {meth : Method} {c : Code} {A : Nat → Prop} {G : GE} {a_t a_t_s a_t_image a_t_mind a_t_aside a_t_text a_t_read a_t_comes a_t_begins a_t_latest a_t_move a_t_sort a_t_items a_t_cell a_t_carried : Nat} {r : Int32} {z_t_cell : Nat → Int64} {z_t_carried : Nat → Int64}
set_option maxRecDepth 100000 in
set_option maxHeartbeats 4000000 in
theorem k_X8_slide_139 (C : Cx p s m args meth c cX8_slide (some .int) 7 RX8 G A) (t_isKept : Int32) (t_work : Int32) (t_kind : Int32) (t_letters : Int32) (t_at : Int32) (t_fault : Int32) (t_back : Int32) (t_waits : Int32) (t_miles : Int32) (t_loads : Int32) (t_bestRound : Int32) (t_bestPlace : Int32) (t_bestAdds : Int32) (t_regret : Int32) (t_z : Int32) (t_sort : Nat → Int32) (t_items : Nat → Int32) (t_cell : Nat → Int64) (t_carried : Nat → Int64) (x3 : Int32) (x4 : Int32) (x5 : Int32) (x6 : Int32) (k139 : Int32 × (Nat → Int64) → Option (Int32 × (Nat → Int64) × (Nat → Int64))) (hk139 : ∀ {H : Heap} {locs : List Loc} {ls : Array Slot} (x6' : Int32) (t_cell' : Nat → Int64), k139 (x6', t_cell') = some (r, z_t_cell, z_t_carried) → St G A s.heap H locs (w_X8_slide G a_t a_t_s a_t_image a_t_mind a_t_aside a_t_text a_t_read a_t_comes a_t_begins a_t_latest a_t_move a_t_sort a_t_items a_t_cell a_t_carried t_isKept t_work t_kind t_letters t_at t_fault t_back t_waits t_miles t_loads t_bestRound t_bestPlace t_bestAdds t_regret t_z t_sort t_items t_cell' t_carried) → lv_has ls 7 [(0, .ref a_t), (3, .int x3), (4, .int x4), (5, .int x5), (6, .int x6')] → W p l e rm_X8_slide s m args below meth c H locs 0 0 (QI G below args s A r (w_X8_slide G a_t a_t_s a_t_image a_t_mind a_t_aside a_t_text a_t_read a_t_comes a_t_begins a_t_latest a_t_move a_t_sort a_t_items a_t_cell a_t_carried t_isKept t_work t_kind t_letters t_at t_fault t_back t_waits t_miles t_loads t_bestRound t_bestPlace t_bestAdds t_regret t_z t_sort t_items z_t_cell z_t_carried)) (F0 m 139 ls [])) {H : Heap} {locs : List Loc} {ls : Array Slot} (hf : b_X8_slide_139 x3 x4 x5 t_carried k139 x6 t_cell = some (r, z_t_cell, z_t_carried)) (S : St G A s.heap H locs (w_X8_slide G a_t a_t_s a_t_image a_t_mind a_t_aside a_t_text a_t_read a_t_comes a_t_begins a_t_latest a_t_move a_t_sort a_t_items a_t_cell a_t_carried t_isKept t_work t_kind t_letters t_at t_fault t_back t_waits t_miles t_loads t_bestRound t_bestPlace t_bestAdds t_regret t_z t_sort t_items t_cell t_carried)) (hl : lv_has ls 7 [(0, .ref a_t), (3, .int x3), (4, .int x4), (5, .int x5), (6, .int x6)]) : W p l e rm_X8_slide s m args below meth c H locs 0 0 (QI G below args s A r (w_X8_slide G a_t a_t_s a_t_image a_t_mind a_t_aside a_t_text a_t_read a_t_comes a_t_begins a_t_latest a_t_move a_t_sort a_t_items a_t_cell a_t_carried t_isKept t_work t_kind t_letters t_at t_fault t_back t_waits t_miles t_loads t_bestRound t_bestPlace t_bestAdds t_regret t_z t_sort t_items z_t_cell z_t_carried)) (F0 m 139 ls []) := by
  unfold b_X8_slide_139 at hf
  have hx := C.1
  have hb := C.2.1
  have hown := C.2.2.2.2.1
  have hts := C.2.2.2.2.2.1
  have hN := C.2.2.2.2.2.2.2.2.2.2
  refine lv_iload (pc := 139) hx hb dX8_slide_139 (lv_at hl 4 rfl) ?_
  refine lv_iload (pc := 141) hx hb dX8_slide_141 (lv_at hl 3 rfl) ?_
  refine lv_icmp_ge (tgt := 174) (pc := 143) hx hb dX8_slide_143 (by decide) (fun c1 => ?_) (fun c1 => ?_)
  · have hf := ifp c1 hf
    refine lv_iload (pc := 174) hx hb dX8_slide_174 (lv_at hl 3 rfl) ?_
    cases hf
    exact x_iret (pc := 176) C S dX8_slide_176
  · have hf := ifn c1 hf
    refine lv_aload_n (pc := 146) hx hb dX8_slide_146 rfl (lv_at hl 0 rfl) ?_
    refine x_get (pc := 147) (ci := 8) (T := TX8) (v := .ref a_t_cell) C S 0 rfl rfl inlX8 26 (by decide) rfl qf_8_48 rfl dX8_slide_147 ?_
    refine lv_bipush (pc := 150) hx hb dX8_slide_150 bc_60 ?_
    refine lv_iload_n (pc := 152) hx hb dX8_slide_152 rfl (lv_at hl 1 rfl) ?_
    refine lv_imul (pc := 153) hx hb dX8_slide_153 ?_
    refine lv_iload (pc := 154) hx hb dX8_slide_154 (lv_at hl 2 rfl) ?_
    refine lv_iadd (pc := 156) hx hb dX8_slide_156 ?_
    refine lv_iload (pc := 157) hx hb dX8_slide_157 (lv_at hl 4 rfl) ?_
    refine lv_iadd (pc := 159) hx hb dX8_slide_159 ?_
    refine lv_aload_n (pc := 160) hx hb dX8_slide_160 rfl (lv_at hl 0 rfl) ?_
    refine x_get (pc := 161) (ci := 8) (T := TX8) (v := .ref a_t_carried) C S 0 rfl rfl inlX8 27 (by decide) rfl qf_8_52 rfl dX8_slide_161 ?_
    refine lv_iload (pc := 164) hx hb dX8_slide_164 (lv_at hl 4 rfl) ?_
    obtain ⟨hv2, hf⟩ := gI_e hf
    refine x_lald (pc := 166) C S 4 rfl hv2 dX8_slide_166 ?_
    obtain ⟨hv3, hf⟩ := gI_e hf
    refine x_last (pc := 167) (ws' := (w_X8_slide G a_t a_t_s a_t_image a_t_mind a_t_aside a_t_text a_t_read a_t_comes a_t_begins a_t_latest a_t_move a_t_sort a_t_items a_t_cell a_t_carried t_isKept t_work t_kind t_letters t_at t_fault t_back t_waits t_miles t_loads t_bestRound t_bestPlace t_bestAdds t_regret t_z t_sort t_items (vp_updL t_cell ((((60 : Int32) * x3) + x4) + x6).toNatClampNeg (t_carried x6.toNatClampNeg)) t_carried)) C S 3 rfl hv3 rfl dX8_slide_167 (fun H locs S => ?_)
    refine lv_iinc (pc := 168) (v := (x6 + (1 : Int32))) (lv' := [(6, .int (x6 + (1 : Int32))), (0, .ref a_t), (3, .int x3), (4, .int x4), (5, .int x5)]) hx hb dX8_slide_168 hl (k := 4) rfl (congrArg (fun z => x6 + z) ic_1) (by decide) rfl (fun ls hl => ?_)
    refine lv_goto (tgt := 139) (pc := 171) hx hb dX8_slide_171 (by decide) ?_
    exact hk139 ((x6 + (1 : Int32))) ((vp_updL t_cell ((((60 : Int32) * x3) + x4) + x6).toNatClampNeg (t_carried x6.toNatClampNeg)))  hf S (lv_sub hl [1, 2, 3, 4, 0] rfl)
set_option maxRecDepth 100000 in
set_option maxHeartbeats 4000000 in
theorem h_X8_slide_139 (C : Cx p s m args meth c cX8_slide (some .int) 7 RX8 G A) (t_isKept : Int32) (t_work : Int32) (t_kind : Int32) (t_letters : Int32) (t_at : Int32) (t_fault : Int32) (t_back : Int32) (t_waits : Int32) (t_miles : Int32) (t_loads : Int32) (t_bestRound : Int32) (t_bestPlace : Int32) (t_bestAdds : Int32) (t_regret : Int32) (t_z : Int32) (t_sort : Nat → Int32) (t_items : Nat → Int32) (t_carried : Nat → Int64) (x3 : Int32) (x4 : Int32) (x5 : Int32) : ∀ (n : Nat) (x6 : Int32) (t_cell : Nat → Int64) {H : Heap} {locs : List Loc} {ls : Array Slot} (hf : lp (fun k x => b_X8_slide_139 x3 x4 x5 t_carried k x.1 x.2) n (x6, t_cell) = some (r, z_t_cell, z_t_carried)) (S : St G A s.heap H locs (w_X8_slide G a_t a_t_s a_t_image a_t_mind a_t_aside a_t_text a_t_read a_t_comes a_t_begins a_t_latest a_t_move a_t_sort a_t_items a_t_cell a_t_carried t_isKept t_work t_kind t_letters t_at t_fault t_back t_waits t_miles t_loads t_bestRound t_bestPlace t_bestAdds t_regret t_z t_sort t_items t_cell t_carried)) (hl : lv_has ls 7 [(0, .ref a_t), (3, .int x3), (4, .int x4), (5, .int x5), (6, .int x6)]), W p l e rm_X8_slide s m args below meth c H locs 0 0 (QI G below args s A r (w_X8_slide G a_t a_t_s a_t_image a_t_mind a_t_aside a_t_text a_t_read a_t_comes a_t_begins a_t_latest a_t_move a_t_sort a_t_items a_t_cell a_t_carried t_isKept t_work t_kind t_letters t_at t_fault t_back t_waits t_miles t_loads t_bestRound t_bestPlace t_bestAdds t_regret t_z t_sort t_items z_t_cell z_t_carried)) (F0 m 139 ls []) := by
  intro n
  induction n with
  | zero =>
    intro x6 t_cell  H locs ls hf
    cases hf
  | succ n ih =>
    intro x6 t_cell  H locs ls hf S hl
    have hf : b_X8_slide_139 x3 x4 x5 t_carried (lp (fun k x => b_X8_slide_139 x3 x4 x5 t_carried k x.1 x.2) n) x6 t_cell = some (r, z_t_cell, z_t_carried) := hf
    exact k_X8_slide_139 C t_isKept t_work t_kind t_letters t_at t_fault t_back t_waits t_miles t_loads t_bestRound t_bestPlace t_bestAdds t_regret t_z t_sort t_items t_cell t_carried x3 x4 x5 x6  (lp (fun k x => b_X8_slide_139 x3 x4 x5 t_carried k x.1 x.2) n) (fun x6' t_cell'  h S hl => ih x6' t_cell'  h S hl) hf S hl
set_option maxRecDepth 100000 in
set_option maxHeartbeats 4000000 in
theorem k_X8_slide_102 (C : Cx p s m args meth c cX8_slide (some .int) 7 RX8 G A) (t_isKept : Int32) (t_work : Int32) (t_kind : Int32) (t_letters : Int32) (t_at : Int32) (t_fault : Int32) (t_back : Int32) (t_waits : Int32) (t_miles : Int32) (t_loads : Int32) (t_bestRound : Int32) (t_bestPlace : Int32) (t_bestAdds : Int32) (t_regret : Int32) (t_z : Int32) (t_sort : Nat → Int32) (t_items : Nat → Int32) (t_cell : Nat → Int64) (t_carried : Nat → Int64) (x1 : Int32) (x2 : Int32) (x3 : Int32) (x4 : Int32) (x5 : Int32) (x6 : Int32) (k102 : Int32 × (Nat → Int64) → Option (Int32 × (Nat → Int64) × (Nat → Int64))) (hk102 : ∀ {H : Heap} {locs : List Loc} {ls : Array Slot} (x6' : Int32) (t_carried' : Nat → Int64), k102 (x6', t_carried') = some (r, z_t_cell, z_t_carried) → St G A s.heap H locs (w_X8_slide G a_t a_t_s a_t_image a_t_mind a_t_aside a_t_text a_t_read a_t_comes a_t_begins a_t_latest a_t_move a_t_sort a_t_items a_t_cell a_t_carried t_isKept t_work t_kind t_letters t_at t_fault t_back t_waits t_miles t_loads t_bestRound t_bestPlace t_bestAdds t_regret t_z t_sort t_items t_cell t_carried') → lv_has ls 7 [(0, .ref a_t), (1, .int x1), (2, .int x2), (3, .int x3), (4, .int x4), (5, .int x5), (6, .int x6')] → W p l e rm_X8_slide s m args below meth c H locs 0 0 (QI G below args s A r (w_X8_slide G a_t a_t_s a_t_image a_t_mind a_t_aside a_t_text a_t_read a_t_comes a_t_begins a_t_latest a_t_move a_t_sort a_t_items a_t_cell a_t_carried t_isKept t_work t_kind t_letters t_at t_fault t_back t_waits t_miles t_loads t_bestRound t_bestPlace t_bestAdds t_regret t_z t_sort t_items z_t_cell z_t_carried)) (F0 m 102 ls [])) {H : Heap} {locs : List Loc} {ls : Array Slot} (hf : b_X8_slide_102 x1 x2 x3 x4 x5 t_cell k102 x6 t_carried = some (r, z_t_cell, z_t_carried)) (S : St G A s.heap H locs (w_X8_slide G a_t a_t_s a_t_image a_t_mind a_t_aside a_t_text a_t_read a_t_comes a_t_begins a_t_latest a_t_move a_t_sort a_t_items a_t_cell a_t_carried t_isKept t_work t_kind t_letters t_at t_fault t_back t_waits t_miles t_loads t_bestRound t_bestPlace t_bestAdds t_regret t_z t_sort t_items t_cell t_carried)) (hl : lv_has ls 7 [(0, .ref a_t), (1, .int x1), (2, .int x2), (3, .int x3), (4, .int x4), (5, .int x5), (6, .int x6)]) : W p l e rm_X8_slide s m args below meth c H locs 0 0 (QI G below args s A r (w_X8_slide G a_t a_t_s a_t_image a_t_mind a_t_aside a_t_text a_t_read a_t_comes a_t_begins a_t_latest a_t_move a_t_sort a_t_items a_t_cell a_t_carried t_isKept t_work t_kind t_letters t_at t_fault t_back t_waits t_miles t_loads t_bestRound t_bestPlace t_bestAdds t_regret t_z t_sort t_items z_t_cell z_t_carried)) (F0 m 102 ls []) := by
  unfold b_X8_slide_102 at hf
  have hx := C.1
  have hb := C.2.1
  have hown := C.2.2.2.2.1
  have hts := C.2.2.2.2.2.1
  have hN := C.2.2.2.2.2.2.2.2.2.2
  refine lv_iload (pc := 102) hx hb dX8_slide_102 (lv_at hl 6 rfl) ?_
  refine lv_iload (pc := 104) hx hb dX8_slide_104 (lv_at hl 5 rfl) ?_
  refine lv_icmp_ge (tgt := 136) (pc := 106) hx hb dX8_slide_106 (by decide) (fun c1 => ?_) (fun c1 => ?_)
  · have hf := ifp c1 hf
    refine lv_iconst (pc := 136) hx hb dX8_slide_136 ic_0 ?_
    refine lv_istore (pc := 137) (lv' := [(6, .int (0 : Int32)), (0, .ref a_t), (1, .int x1), (2, .int x2), (3, .int x3), (4, .int x4), (5, .int x5)]) hx hb dX8_slide_137 hl (by decide) rfl (fun ls hl => ?_)
    exact h_X8_slide_139 C (t_isKept) (t_work) (t_kind) (t_letters) (t_at) (t_fault) (t_back) (t_waits) (t_miles) (t_loads) (t_bestRound) (t_bestPlace) (t_bestAdds) (t_regret) (t_z) (t_sort) (t_items) (t_carried) (x3) (x4) (x5) fu ((0 : Int32)) (t_cell) hf S (lv_sub hl [1, 4, 5, 6, 0] rfl)
  · have hf := ifn c1 hf
    refine lv_aload_n (pc := 109) hx hb dX8_slide_109 rfl (lv_at hl 0 rfl) ?_
    refine x_get (pc := 110) (ci := 8) (T := TX8) (v := .ref a_t_carried) C S 0 rfl rfl inlX8 27 (by decide) rfl qf_8_52 rfl dX8_slide_110 ?_
    refine lv_iload (pc := 113) hx hb dX8_slide_113 (lv_at hl 6 rfl) ?_
    refine lv_aload_n (pc := 115) hx hb dX8_slide_115 rfl (lv_at hl 0 rfl) ?_
    refine x_get (pc := 116) (ci := 8) (T := TX8) (v := .ref a_t_cell) C S 0 rfl rfl inlX8 26 (by decide) rfl qf_8_48 rfl dX8_slide_116 ?_
    refine lv_bipush (pc := 119) hx hb dX8_slide_119 bc_60 ?_
    refine lv_iload_n (pc := 121) hx hb dX8_slide_121 rfl (lv_at hl 1 rfl) ?_
    refine lv_imul (pc := 122) hx hb dX8_slide_122 ?_
    refine lv_iload_n (pc := 123) hx hb dX8_slide_123 rfl (lv_at hl 2 rfl) ?_
    refine lv_iadd (pc := 124) hx hb dX8_slide_124 ?_
    refine lv_iload (pc := 125) hx hb dX8_slide_125 (lv_at hl 6 rfl) ?_
    refine lv_iadd (pc := 127) hx hb dX8_slide_127 ?_
    obtain ⟨hv2, hf⟩ := gI_e hf
    refine x_lald (pc := 128) C S 3 rfl hv2 dX8_slide_128 ?_
    obtain ⟨hv3, hf⟩ := gI_e hf
    refine x_last (pc := 129) (ws' := (w_X8_slide G a_t a_t_s a_t_image a_t_mind a_t_aside a_t_text a_t_read a_t_comes a_t_begins a_t_latest a_t_move a_t_sort a_t_items a_t_cell a_t_carried t_isKept t_work t_kind t_letters t_at t_fault t_back t_waits t_miles t_loads t_bestRound t_bestPlace t_bestAdds t_regret t_z t_sort t_items t_cell (vp_updL t_carried x6.toNatClampNeg (t_cell ((((60 : Int32) * x1) + x2) + x6).toNatClampNeg)))) C S 4 rfl hv3 rfl dX8_slide_129 (fun H locs S => ?_)
    refine lv_iinc (pc := 130) (v := (x6 + (1 : Int32))) (lv' := [(6, .int (x6 + (1 : Int32))), (0, .ref a_t), (1, .int x1), (2, .int x2), (3, .int x3), (4, .int x4), (5, .int x5)]) hx hb dX8_slide_130 hl (k := 6) rfl (congrArg (fun z => x6 + z) ic_1) (by decide) rfl (fun ls hl => ?_)
    refine lv_goto (tgt := 102) (pc := 133) hx hb dX8_slide_133 (by decide) ?_
    exact hk102 ((x6 + (1 : Int32))) ((vp_updL t_carried x6.toNatClampNeg (t_cell ((((60 : Int32) * x1) + x2) + x6).toNatClampNeg)))  hf S (lv_sub hl [1, 2, 3, 4, 5, 6, 0] rfl)
set_option maxRecDepth 100000 in
set_option maxHeartbeats 4000000 in
theorem h_X8_slide_102 (C : Cx p s m args meth c cX8_slide (some .int) 7 RX8 G A) (t_isKept : Int32) (t_work : Int32) (t_kind : Int32) (t_letters : Int32) (t_at : Int32) (t_fault : Int32) (t_back : Int32) (t_waits : Int32) (t_miles : Int32) (t_loads : Int32) (t_bestRound : Int32) (t_bestPlace : Int32) (t_bestAdds : Int32) (t_regret : Int32) (t_z : Int32) (t_sort : Nat → Int32) (t_items : Nat → Int32) (t_cell : Nat → Int64) (x1 : Int32) (x2 : Int32) (x3 : Int32) (x4 : Int32) (x5 : Int32) : ∀ (n : Nat) (x6 : Int32) (t_carried : Nat → Int64) {H : Heap} {locs : List Loc} {ls : Array Slot} (hf : lp (fun k x => b_X8_slide_102 x1 x2 x3 x4 x5 t_cell k x.1 x.2) n (x6, t_carried) = some (r, z_t_cell, z_t_carried)) (S : St G A s.heap H locs (w_X8_slide G a_t a_t_s a_t_image a_t_mind a_t_aside a_t_text a_t_read a_t_comes a_t_begins a_t_latest a_t_move a_t_sort a_t_items a_t_cell a_t_carried t_isKept t_work t_kind t_letters t_at t_fault t_back t_waits t_miles t_loads t_bestRound t_bestPlace t_bestAdds t_regret t_z t_sort t_items t_cell t_carried)) (hl : lv_has ls 7 [(0, .ref a_t), (1, .int x1), (2, .int x2), (3, .int x3), (4, .int x4), (5, .int x5), (6, .int x6)]), W p l e rm_X8_slide s m args below meth c H locs 0 0 (QI G below args s A r (w_X8_slide G a_t a_t_s a_t_image a_t_mind a_t_aside a_t_text a_t_read a_t_comes a_t_begins a_t_latest a_t_move a_t_sort a_t_items a_t_cell a_t_carried t_isKept t_work t_kind t_letters t_at t_fault t_back t_waits t_miles t_loads t_bestRound t_bestPlace t_bestAdds t_regret t_z t_sort t_items z_t_cell z_t_carried)) (F0 m 102 ls []) := by
  intro n
  induction n with
  | zero =>
    intro x6 t_carried  H locs ls hf
    cases hf
  | succ n ih =>
    intro x6 t_carried  H locs ls hf S hl
    have hf : b_X8_slide_102 x1 x2 x3 x4 x5 t_cell (lp (fun k x => b_X8_slide_102 x1 x2 x3 x4 x5 t_cell k x.1 x.2) n) x6 t_carried = some (r, z_t_cell, z_t_carried) := hf
    exact k_X8_slide_102 C t_isKept t_work t_kind t_letters t_at t_fault t_back t_waits t_miles t_loads t_bestRound t_bestPlace t_bestAdds t_regret t_z t_sort t_items t_cell t_carried x1 x2 x3 x4 x5 x6  (lp (fun k x => b_X8_slide_102 x1 x2 x3 x4 x5 t_cell k x.1 x.2) n) (fun x6' t_carried'  h S hl => ih x6' t_carried'  h S hl) hf S hl
set_option maxRecDepth 100000 in
set_option maxHeartbeats 4000000 in
theorem c_X8_slide (l : Launch) (G : GE) (a_t a_t_s a_t_image a_t_mind a_t_aside a_t_text a_t_read a_t_comes a_t_begins a_t_latest a_t_move a_t_sort a_t_items a_t_cell a_t_carried : Nat) (t_isKept : Int32) (t_work : Int32) (t_kind : Int32) (t_letters : Int32) (t_at : Int32) (t_fault : Int32) (t_back : Int32) (t_waits : Int32) (t_miles : Int32) (t_loads : Int32) (t_bestRound : Int32) (t_bestPlace : Int32) (t_bestAdds : Int32) (t_regret : Int32) (t_z : Int32) (t_sort : Nat → Int32) (t_items : Nat → Int32) (t_cell : Nat → Int64) (t_carried : Nat → Int64) (x1 : Int32) (x2 : Int32) (x3 : Int32) (x4 : Int32) (x5 : Int32) (r : Int32) (z_t_cell : Nat → Int64) (z_t_carried : Nat → Int64) (hf : f_X8_slide t_sort t_items t_cell t_carried x1 x2 x3 x4 x5 = some (r, z_t_cell, z_t_carried)) : CI l G yX8_slide kw_X8_slide rm_X8_slide [.ref a_t, .int x1, .int x2, .int x3, .int x4, .int x5] (w_X8_slide G a_t a_t_s a_t_image a_t_mind a_t_aside a_t_text a_t_read a_t_comes a_t_begins a_t_latest a_t_move a_t_sort a_t_items a_t_cell a_t_carried t_isKept t_work t_kind t_letters t_at t_fault t_back t_waits t_miles t_loads t_bestRound t_bestPlace t_bestAdds t_regret t_z t_sort t_items t_cell t_carried) r (w_X8_slide G a_t a_t_s a_t_image a_t_mind a_t_aside a_t_text a_t_read a_t_comes a_t_begins a_t_latest a_t_move a_t_sort a_t_items a_t_cell a_t_carried t_isKept t_work t_kind t_letters t_at t_fault t_back t_waits t_miles t_loads t_bestRound t_bestPlace t_bestAdds t_regret t_z t_sort t_items z_t_cell z_t_carried) := by
  refine en_I (cc := cX8_slide) (maxL := 7) (ret := (some .int)) (by decide +kernel) (Nat.le_of_ble_eq_true rfl) ?_
  intro p e s m args below meth c A ls C S hl
  have hl : lv_has ls 7 [(0, .ref a_t), (1, .int x1), (2, .int x2), (3, .int x3), (4, .int x4), (5, .int x5)] := hl
  have C : Cx p s m args meth c cX8_slide (some .int) 7 RX8 G A := C
  unfold f_X8_slide at hf
  have hx := C.1
  have hb := C.2.1
  have hown := C.2.2.2.2.1
  have hts := C.2.2.2.2.2.1
  have hN := C.2.2.2.2.2.2.2.2.2.2
  refine lv_iload_n (pc := 0) hx hb dX8_slide_0 rfl (lv_at hl 1 rfl) ?_
  obtain ⟨r1, hq1, hf⟩ := bd_e hf
  refine x_sI (pc := 1) (As := [.int x1]) (rest := []) (isC := []) (ws' := (w_X8_slide G a_t a_t_s a_t_image a_t_mind a_t_aside a_t_text a_t_read a_t_comes a_t_begins a_t_latest a_t_move a_t_sort a_t_items a_t_cell a_t_carried t_isKept t_work t_kind t_letters t_at t_fault t_back t_waits t_miles t_loads t_bestRound t_bestPlace t_bestAdds t_regret t_z t_sort t_items t_cell t_carried)) C S (c_X8_isTape l G x1 r1 hq1) (u_X8_slide_X8_isTape_285 hts) rfl (by decide +kernel) [none, none, none, none, none] (by decide +kernel) rfl rfl rfl hl.1 rfl (Nat.le_of_ble_eq_true rfl) dX8_slide_1 (fun H locs S => ?_)
  refine lv_if_eq (tgt := 14) (pc := 4) hx hb dX8_slide_4 (by decide) (fun c2 => ?_) (fun c2 => ?_)
  · have hf := ifp c2 hf
    refine lv_iconst (pc := 14) hx hb dX8_slide_14 ic_m1 ?_
    cases hf
    exact x_iret (pc := 15) C S dX8_slide_15
  · have hf := ifn c2 hf
    refine lv_iload_n (pc := 7) hx hb dX8_slide_7 rfl (lv_at hl 3 rfl) ?_
    obtain ⟨r3, hq3, hf⟩ := bd_e hf
    refine x_sI (pc := 8) (As := [.int x3]) (rest := []) (isC := []) (ws' := (w_X8_slide G a_t a_t_s a_t_image a_t_mind a_t_aside a_t_text a_t_read a_t_comes a_t_begins a_t_latest a_t_move a_t_sort a_t_items a_t_cell a_t_carried t_isKept t_work t_kind t_letters t_at t_fault t_back t_waits t_miles t_loads t_bestRound t_bestPlace t_bestAdds t_regret t_z t_sort t_items t_cell t_carried)) C S (c_X8_isTape l G x3 r3 hq3) (u_X8_slide_X8_isTape_285 hts) rfl (by decide +kernel) [none, none, none, none, none] (by decide +kernel) rfl rfl rfl hl.1 rfl (Nat.le_of_ble_eq_true rfl) dX8_slide_8 (fun H locs S => ?_)
    refine lv_if_ne (tgt := 16) (pc := 11) hx hb dX8_slide_11 (by decide) (fun c4 => ?_) (fun c4 => ?_)
    · have hf := ifn c4 hf
      refine lv_aload_n (pc := 16) hx hb dX8_slide_16 rfl (lv_at hl 0 rfl) ?_
      refine x_get (pc := 17) (ci := 8) (T := TX8) (v := .ref a_t_sort) C S 0 rfl rfl inlX8 24 (by decide) rfl qf_8_42 rfl dX8_slide_17 ?_
      refine lv_iload_n (pc := 20) hx hb dX8_slide_20 rfl (lv_at hl 1 rfl) ?_
      obtain ⟨hv5, hf⟩ := gI_e hf
      refine x_iald (pc := 21) C S 1 rfl hv5 dX8_slide_21 ?_
      refine lv_if_lt (tgt := 34) (pc := 22) hx hb dX8_slide_22 (by decide) (fun c6 => ?_) (fun c6 => ?_)
      · have hf := ifp c6 hf
        refine lv_bipush (pc := 34) hx hb dX8_slide_34 bc_m11 ?_
        cases hf
        exact x_iret (pc := 36) C S dX8_slide_36
      · have hf := ifn c6 hf
        refine lv_aload_n (pc := 25) hx hb dX8_slide_25 rfl (lv_at hl 0 rfl) ?_
        refine x_get (pc := 26) (ci := 8) (T := TX8) (v := .ref a_t_sort) C S 0 rfl rfl inlX8 24 (by decide) rfl qf_8_42 rfl dX8_slide_26 ?_
        refine lv_iload_n (pc := 29) hx hb dX8_slide_29 rfl (lv_at hl 3 rfl) ?_
        obtain ⟨hv7, hf⟩ := gI_e hf
        refine x_iald (pc := 30) C S 1 rfl hv7 dX8_slide_30 ?_
        refine lv_if_ge (tgt := 37) (pc := 31) hx hb dX8_slide_31 (by decide) (fun c8 => ?_) (fun c8 => ?_)
        · have hf := ifp c8 hf
          refine lv_aload_n (pc := 37) hx hb dX8_slide_37 rfl (lv_at hl 0 rfl) ?_
          refine x_get (pc := 38) (ci := 8) (T := TX8) (v := .ref a_t_sort) C S 0 rfl rfl inlX8 24 (by decide) rfl qf_8_42 rfl dX8_slide_38 ?_
          refine lv_iload_n (pc := 41) hx hb dX8_slide_41 rfl (lv_at hl 1 rfl) ?_
          refine x_iald (pc := 42) C S 1 rfl hv5 dX8_slide_42 ?_
          refine lv_aload_n (pc := 43) hx hb dX8_slide_43 rfl (lv_at hl 0 rfl) ?_
          refine x_get (pc := 44) (ci := 8) (T := TX8) (v := .ref a_t_sort) C S 0 rfl rfl inlX8 24 (by decide) rfl qf_8_42 rfl dX8_slide_44 ?_
          refine lv_iload_n (pc := 47) hx hb dX8_slide_47 rfl (lv_at hl 3 rfl) ?_
          refine x_iald (pc := 48) C S 1 rfl hv7 dX8_slide_48 ?_
          refine lv_icmp_eq (tgt := 55) (pc := 49) hx hb dX8_slide_49 (by decide) (fun c9 => ?_) (fun c9 => ?_)
          · have hf := ifp c9 hf
            refine lv_iload (pc := 55) hx hb dX8_slide_55 (lv_at hl 5 rfl) ?_
            refine lv_if_lt (tgt := 96) (pc := 57) hx hb dX8_slide_57 (by decide) (fun c10 => ?_) (fun c10 => ?_)
            · have hf := ifp c10 hf
              refine lv_bipush (pc := 96) hx hb dX8_slide_96 bc_m13 ?_
              cases hf
              exact x_iret (pc := 98) C S dX8_slide_98
            · have hf := ifn c10 hf
              refine lv_iload_n (pc := 60) hx hb dX8_slide_60 rfl (lv_at hl 2 rfl) ?_
              refine lv_if_lt (tgt := 96) (pc := 61) hx hb dX8_slide_61 (by decide) (fun c11 => ?_) (fun c11 => ?_)
              · have hf := ifp c11 hf
                refine lv_bipush (pc := 96) hx hb dX8_slide_96 bc_m13 ?_
                cases hf
                exact x_iret (pc := 98) C S dX8_slide_98
              · have hf := ifn c11 hf
                refine lv_iload (pc := 64) hx hb dX8_slide_64 (lv_at hl 4 rfl) ?_
                refine lv_if_lt (tgt := 96) (pc := 66) hx hb dX8_slide_66 (by decide) (fun c12 => ?_) (fun c12 => ?_)
                · have hf := ifp c12 hf
                  refine lv_bipush (pc := 96) hx hb dX8_slide_96 bc_m13 ?_
                  cases hf
                  exact x_iret (pc := 98) C S dX8_slide_98
                · have hf := ifn c12 hf
                  refine lv_iload (pc := 69) hx hb dX8_slide_69 (lv_at hl 5 rfl) ?_
                  refine lv_aload_n (pc := 71) hx hb dX8_slide_71 rfl (lv_at hl 0 rfl) ?_
                  refine x_get (pc := 72) (ci := 8) (T := TX8) (v := .ref a_t_items) C S 0 rfl rfl inlX8 25 (by decide) rfl qf_8_45 rfl dX8_slide_72 ?_
                  refine lv_iload_n (pc := 75) hx hb dX8_slide_75 rfl (lv_at hl 1 rfl) ?_
                  refine x_iald (pc := 76) C S 2 rfl hv5 dX8_slide_76 ?_
                  refine lv_iload_n (pc := 77) hx hb dX8_slide_77 rfl (lv_at hl 2 rfl) ?_
                  refine lv_isub (pc := 78) hx hb dX8_slide_78 ?_
                  refine lv_icmp_gt (tgt := 96) (pc := 79) hx hb dX8_slide_79 (by decide) (fun c13 => ?_) (fun c13 => ?_)
                  · have hf := ifp c13 hf
                    refine lv_bipush (pc := 96) hx hb dX8_slide_96 bc_m13 ?_
                    cases hf
                    exact x_iret (pc := 98) C S dX8_slide_98
                  · have hf := ifn c13 hf
                    refine lv_iload (pc := 82) hx hb dX8_slide_82 (lv_at hl 5 rfl) ?_
                    refine lv_aload_n (pc := 84) hx hb dX8_slide_84 rfl (lv_at hl 0 rfl) ?_
                    refine x_get (pc := 85) (ci := 8) (T := TX8) (v := .ref a_t_items) C S 0 rfl rfl inlX8 25 (by decide) rfl qf_8_45 rfl dX8_slide_85 ?_
                    refine lv_iload_n (pc := 88) hx hb dX8_slide_88 rfl (lv_at hl 3 rfl) ?_
                    refine x_iald (pc := 89) C S 2 rfl hv7 dX8_slide_89 ?_
                    refine lv_iload (pc := 90) hx hb dX8_slide_90 (lv_at hl 4 rfl) ?_
                    refine lv_isub (pc := 92) hx hb dX8_slide_92 ?_
                    refine lv_icmp_le (tgt := 99) (pc := 93) hx hb dX8_slide_93 (by decide) (fun c14 => ?_) (fun c14 => ?_)
                    · have hf := ifp c14 hf
                      refine lv_iconst (pc := 99) hx hb dX8_slide_99 ic_0 ?_
                      refine lv_istore (pc := 100) (lv' := [(6, .int (0 : Int32)), (0, .ref a_t), (1, .int x1), (2, .int x2), (3, .int x3), (4, .int x4), (5, .int x5)]) hx hb dX8_slide_100 hl (by decide) rfl (fun ls hl => ?_)
                      exact h_X8_slide_102 C (t_isKept) (t_work) (t_kind) (t_letters) (t_at) (t_fault) (t_back) (t_waits) (t_miles) (t_loads) (t_bestRound) (t_bestPlace) (t_bestAdds) (t_regret) (t_z) (t_sort) (t_items) (t_cell) (x1) (x2) (x3) (x4) (x5) fu ((0 : Int32)) (t_carried) hf S (lv_sub hl [1, 2, 3, 4, 5, 6, 0] rfl)
                    · have hf := ifn c14 hf
                      refine lv_bipush (pc := 96) hx hb dX8_slide_96 bc_m13 ?_
                      cases hf
                      exact x_iret (pc := 98) C S dX8_slide_98
          · have hf := ifn c9 hf
            refine lv_bipush (pc := 52) hx hb dX8_slide_52 bc_m12 ?_
            cases hf
            exact x_iret (pc := 54) C S dX8_slide_54
        · have hf := ifn c8 hf
          refine lv_bipush (pc := 34) hx hb dX8_slide_34 bc_m11 ?_
          cases hf
          exact x_iret (pc := 36) C S dX8_slide_36
    · have hf := ifp c4 hf
      refine lv_iconst (pc := 14) hx hb dX8_slide_14 ic_m1 ?_
      cases hf
      exact x_iret (pc := 15) C S dX8_slide_15
end

abbrev rm_X8_stop : Room := { frames := 2, cells := 0, slots := 0, locals := 43 }
abbrev kw_X8_stop : Cond := .code yX8_stop cX8_stop 7 (some .int)
abbrev w_X8_stop (G : GE) (a_t a_t_s a_t_image a_t_mind a_t_aside a_t_text a_t_read a_t_comes a_t_begins a_t_latest a_t_move a_t_sort a_t_items a_t_cell a_t_carried : Nat) (t_isKept : Int32) (t_work : Int32) (t_kind : Int32) (t_letters : Int32) (t_at : Int32) (t_fault : Int32) (t_back : Int32) (t_waits : Int32) (t_miles : Int32) (t_loads : Int32) (t_bestRound : Int32) (t_bestPlace : Int32) (t_bestAdds : Int32) (t_regret : Int32) (t_z : Int32) (t_s : Nat → Int32) : va_W := [(a_t, ob 8 [.ref a_t_s, .ref a_t_image, .ref a_t_mind, .ref a_t_aside, .int t_isKept, .int t_work, .int t_kind, .ref a_t_text, .ref a_t_read, .int t_letters, .int t_at, .int t_fault, .ref a_t_comes, .ref a_t_begins, .ref a_t_latest, .int t_back, .int t_waits, .int t_miles, .int t_loads, .int t_bestRound, .int t_bestPlace, .int t_bestAdds, .int t_regret, .ref a_t_move, .ref a_t_sort, .ref a_t_items, .ref a_t_cell, .ref a_t_carried, .int t_z]), (a_t_s, aI G 258 t_s)]
theorem u_X8_stop_X8_isTold_114 {s : State} {args : Array Value} (hts : ∀ w ∈ WU, w.before args s = true) : CallB rm_X8_stop s args RX8 114 yX8_isTold cX8_isTold 2 (some .boolean) (kw_X8_isTold :: WU) rm_X8_isTold 0 0 2 ∧ (Cond.static yX8_isTold).before args s = true := va_cwS 2 hts (gS qm_8_114 qs_X8_isTold qn_8 qc_X8_isTold) rfl rfl rfl (by decide +kernel) ⟨Nat.le_of_ble_eq_true rfl, Nat.le_of_ble_eq_true rfl⟩
theorem u_X8_stop_X8_comes_118 {s : State} {args : Array Value} (hts : ∀ w ∈ WU, w.before args s = true) : CallW rm_X8_stop s args RX8 RX8 118 yX8_comes cX8_comes 8 none (kw_X8_comes :: WU) rm_X8_comes 0 0 6 := cwV 6 hts (gV qm_8_118 qi_X8_comes ql_X8_comes qn_8 qc_X8_comes) rfl rfl rfl (by decide +kernel) ⟨Nat.le_of_ble_eq_true rfl, Nat.le_of_ble_eq_true rfl⟩
section
variable {p : Program} {l : Launch} {e : Env} {s : State} {m : MethodId} {args : Array Value} {below : List Frame} {meth : Method} {c : Code} {A : Nat → Prop} {G : GE} {a_t a_t_s a_t_image a_t_mind a_t_aside a_t_text a_t_read a_t_comes a_t_begins a_t_latest a_t_move a_t_sort a_t_items a_t_cell a_t_carried : Nat} {r : Int32} {z_t_s : Nat → Int32}
set_option maxRecDepth 100000 in
set_option maxHeartbeats 4000000 in
theorem c_X8_stop (l : Launch) (G : GE) (a_t a_t_s a_t_image a_t_mind a_t_aside a_t_text a_t_read a_t_comes a_t_begins a_t_latest a_t_move a_t_sort a_t_items a_t_cell a_t_carried : Nat) (t_isKept : Int32) (t_work : Int32) (t_kind : Int32) (t_letters : Int32) (t_at : Int32) (t_fault : Int32) (t_back : Int32) (t_waits : Int32) (t_miles : Int32) (t_loads : Int32) (t_bestRound : Int32) (t_bestPlace : Int32) (t_bestAdds : Int32) (t_regret : Int32) (t_z : Int32) (t_s : Nat → Int32) (x1 : Int32) (x2 : Int32) (x3 : Int32) (x4 : Int32) (x5 : Int32) (x6 : Int32) (r : Int32) (z_t_s : Nat → Int32) (hf : f_X8_stop t_s x1 x2 x3 x4 x5 x6 = some (r, z_t_s)) : CI l G yX8_stop kw_X8_stop rm_X8_stop [.ref a_t, .int x1, .int x2, .int x3, .int x4, .int x5, .int x6] (w_X8_stop G a_t a_t_s a_t_image a_t_mind a_t_aside a_t_text a_t_read a_t_comes a_t_begins a_t_latest a_t_move a_t_sort a_t_items a_t_cell a_t_carried t_isKept t_work t_kind t_letters t_at t_fault t_back t_waits t_miles t_loads t_bestRound t_bestPlace t_bestAdds t_regret t_z t_s) r (w_X8_stop G a_t a_t_s a_t_image a_t_mind a_t_aside a_t_text a_t_read a_t_comes a_t_begins a_t_latest a_t_move a_t_sort a_t_items a_t_cell a_t_carried t_isKept t_work t_kind t_letters t_at t_fault t_back t_waits t_miles t_loads t_bestRound t_bestPlace t_bestAdds t_regret t_z z_t_s) := by
  refine en_I (cc := cX8_stop) (maxL := 7) (ret := (some .int)) (by decide +kernel) (Nat.le_of_ble_eq_true rfl) ?_
  intro p e s m args below meth c A ls C S hl
  have hl : lv_has ls 7 [(0, .ref a_t), (1, .int x1), (2, .int x2), (3, .int x3), (4, .int x4), (5, .int x5), (6, .int x6)] := hl
  have C : Cx p s m args meth c cX8_stop (some .int) 7 RX8 G A := C
  unfold f_X8_stop at hf
  have hx := C.1
  have hb := C.2.1
  have hown := C.2.2.2.2.1
  have hts := C.2.2.2.2.2.1
  have hN := C.2.2.2.2.2.2.2.2.2.2
  refine lv_iconst (pc := 0) hx hb dX8_stop_0 ic_0 ?_
  refine lv_iload_n (pc := 1) hx hb dX8_stop_1 rfl (lv_at hl 1 rfl) ?_
  obtain ⟨r1, hq1, hf⟩ := bd_e hf
  refine x_sI (pc := 2) (As := [.int (0 : Int32), .int x1]) (rest := []) (isC := []) (ws' := (w_X8_stop G a_t a_t_s a_t_image a_t_mind a_t_aside a_t_text a_t_read a_t_comes a_t_begins a_t_latest a_t_move a_t_sort a_t_items a_t_cell a_t_carried t_isKept t_work t_kind t_letters t_at t_fault t_back t_waits t_miles t_loads t_bestRound t_bestPlace t_bestAdds t_regret t_z t_s)) C S (c_X8_isTold l G (0 : Int32) x1 r1 hq1) (u_X8_stop_X8_isTold_114 hts) rfl (by decide +kernel) [none, none] (by decide +kernel) rfl rfl rfl hl.1 rfl (Nat.le_of_ble_eq_true rfl) dX8_stop_2 (fun H locs S => ?_)
  refine lv_if_eq (tgt := 58) (pc := 5) hx hb dX8_stop_5 (by decide) (fun c2 => ?_) (fun c2 => ?_)
  · have hf := ifp c2 hf
    refine lv_bipush (pc := 58) hx hb dX8_stop_58 bc_m2 ?_
    cases hf
    exact x_iret (pc := 60) C S dX8_stop_60
  · have hf := ifn c2 hf
    refine lv_iconst (pc := 8) hx hb dX8_stop_8 ic_1 ?_
    refine lv_iload_n (pc := 9) hx hb dX8_stop_9 rfl (lv_at hl 2 rfl) ?_
    obtain ⟨r3, hq3, hf⟩ := bd_e hf
    refine x_sI (pc := 10) (As := [.int (1 : Int32), .int x2]) (rest := []) (isC := []) (ws' := (w_X8_stop G a_t a_t_s a_t_image a_t_mind a_t_aside a_t_text a_t_read a_t_comes a_t_begins a_t_latest a_t_move a_t_sort a_t_items a_t_cell a_t_carried t_isKept t_work t_kind t_letters t_at t_fault t_back t_waits t_miles t_loads t_bestRound t_bestPlace t_bestAdds t_regret t_z t_s)) C S (c_X8_isTold l G (1 : Int32) x2 r3 hq3) (u_X8_stop_X8_isTold_114 hts) rfl (by decide +kernel) [none, none] (by decide +kernel) rfl rfl rfl hl.1 rfl (Nat.le_of_ble_eq_true rfl) dX8_stop_10 (fun H locs S => ?_)
    refine lv_if_eq (tgt := 58) (pc := 13) hx hb dX8_stop_13 (by decide) (fun c4 => ?_) (fun c4 => ?_)
    · have hf := ifp c4 hf
      refine lv_bipush (pc := 58) hx hb dX8_stop_58 bc_m2 ?_
      cases hf
      exact x_iret (pc := 60) C S dX8_stop_60
    · have hf := ifn c4 hf
      refine lv_iconst (pc := 16) hx hb dX8_stop_16 ic_2 ?_
      refine lv_iload_n (pc := 17) hx hb dX8_stop_17 rfl (lv_at hl 3 rfl) ?_
      obtain ⟨r5, hq5, hf⟩ := bd_e hf
      refine x_sI (pc := 18) (As := [.int (2 : Int32), .int x3]) (rest := []) (isC := []) (ws' := (w_X8_stop G a_t a_t_s a_t_image a_t_mind a_t_aside a_t_text a_t_read a_t_comes a_t_begins a_t_latest a_t_move a_t_sort a_t_items a_t_cell a_t_carried t_isKept t_work t_kind t_letters t_at t_fault t_back t_waits t_miles t_loads t_bestRound t_bestPlace t_bestAdds t_regret t_z t_s)) C S (c_X8_isTold l G (2 : Int32) x3 r5 hq5) (u_X8_stop_X8_isTold_114 hts) rfl (by decide +kernel) [none, none] (by decide +kernel) rfl rfl rfl hl.1 rfl (Nat.le_of_ble_eq_true rfl) dX8_stop_18 (fun H locs S => ?_)
      refine lv_if_eq (tgt := 58) (pc := 21) hx hb dX8_stop_21 (by decide) (fun c6 => ?_) (fun c6 => ?_)
      · have hf := ifp c6 hf
        refine lv_bipush (pc := 58) hx hb dX8_stop_58 bc_m2 ?_
        cases hf
        exact x_iret (pc := 60) C S dX8_stop_60
      · have hf := ifn c6 hf
        refine lv_iconst (pc := 24) hx hb dX8_stop_24 ic_3 ?_
        refine lv_iload (pc := 25) hx hb dX8_stop_25 (lv_at hl 4 rfl) ?_
        obtain ⟨r7, hq7, hf⟩ := bd_e hf
        refine x_sI (pc := 27) (As := [.int (3 : Int32), .int x4]) (rest := []) (isC := []) (ws' := (w_X8_stop G a_t a_t_s a_t_image a_t_mind a_t_aside a_t_text a_t_read a_t_comes a_t_begins a_t_latest a_t_move a_t_sort a_t_items a_t_cell a_t_carried t_isKept t_work t_kind t_letters t_at t_fault t_back t_waits t_miles t_loads t_bestRound t_bestPlace t_bestAdds t_regret t_z t_s)) C S (c_X8_isTold l G (3 : Int32) x4 r7 hq7) (u_X8_stop_X8_isTold_114 hts) rfl (by decide +kernel) [none, none] (by decide +kernel) rfl rfl rfl hl.1 rfl (Nat.le_of_ble_eq_true rfl) dX8_stop_27 (fun H locs S => ?_)
        refine lv_if_eq (tgt := 58) (pc := 30) hx hb dX8_stop_30 (by decide) (fun c8 => ?_) (fun c8 => ?_)
        · have hf := ifp c8 hf
          refine lv_bipush (pc := 58) hx hb dX8_stop_58 bc_m2 ?_
          cases hf
          exact x_iret (pc := 60) C S dX8_stop_60
        · have hf := ifn c8 hf
          refine lv_iconst (pc := 33) hx hb dX8_stop_33 ic_4 ?_
          refine lv_iload (pc := 34) hx hb dX8_stop_34 (lv_at hl 5 rfl) ?_
          obtain ⟨r9, hq9, hf⟩ := bd_e hf
          refine x_sI (pc := 36) (As := [.int (4 : Int32), .int x5]) (rest := []) (isC := []) (ws' := (w_X8_stop G a_t a_t_s a_t_image a_t_mind a_t_aside a_t_text a_t_read a_t_comes a_t_begins a_t_latest a_t_move a_t_sort a_t_items a_t_cell a_t_carried t_isKept t_work t_kind t_letters t_at t_fault t_back t_waits t_miles t_loads t_bestRound t_bestPlace t_bestAdds t_regret t_z t_s)) C S (c_X8_isTold l G (4 : Int32) x5 r9 hq9) (u_X8_stop_X8_isTold_114 hts) rfl (by decide +kernel) [none, none] (by decide +kernel) rfl rfl rfl hl.1 rfl (Nat.le_of_ble_eq_true rfl) dX8_stop_36 (fun H locs S => ?_)
          refine lv_if_eq (tgt := 58) (pc := 39) hx hb dX8_stop_39 (by decide) (fun c10 => ?_) (fun c10 => ?_)
          · have hf := ifp c10 hf
            refine lv_bipush (pc := 58) hx hb dX8_stop_58 bc_m2 ?_
            cases hf
            exact x_iret (pc := 60) C S dX8_stop_60
          · have hf := ifn c10 hf
            refine lv_iload (pc := 42) hx hb dX8_stop_42 (lv_at hl 4 rfl) ?_
            refine lv_iload (pc := 44) hx hb dX8_stop_44 (lv_at hl 5 rfl) ?_
            refine lv_icmp_gt (tgt := 58) (pc := 46) hx hb dX8_stop_46 (by decide) (fun c11 => ?_) (fun c11 => ?_)
            · have hf := ifp c11 hf
              refine lv_bipush (pc := 58) hx hb dX8_stop_58 bc_m2 ?_
              cases hf
              exact x_iret (pc := 60) C S dX8_stop_60
            · have hf := ifn c11 hf
              refine lv_iconst (pc := 49) hx hb dX8_stop_49 ic_5 ?_
              refine lv_iload (pc := 50) hx hb dX8_stop_50 (lv_at hl 6 rfl) ?_
              obtain ⟨r12, hq12, hf⟩ := bd_e hf
              refine x_sI (pc := 52) (As := [.int (5 : Int32), .int x6]) (rest := []) (isC := []) (ws' := (w_X8_stop G a_t a_t_s a_t_image a_t_mind a_t_aside a_t_text a_t_read a_t_comes a_t_begins a_t_latest a_t_move a_t_sort a_t_items a_t_cell a_t_carried t_isKept t_work t_kind t_letters t_at t_fault t_back t_waits t_miles t_loads t_bestRound t_bestPlace t_bestAdds t_regret t_z t_s)) C S (c_X8_isTold l G (5 : Int32) x6 r12 hq12) (u_X8_stop_X8_isTold_114 hts) rfl (by decide +kernel) [none, none] (by decide +kernel) rfl rfl rfl hl.1 rfl (Nat.le_of_ble_eq_true rfl) dX8_stop_52 (fun H locs S => ?_)
              refine lv_if_ne (tgt := 61) (pc := 55) hx hb dX8_stop_55 (by decide) (fun c13 => ?_) (fun c13 => ?_)
              · have hf := ifn c13 hf
                refine lv_aload_n (pc := 61) hx hb dX8_stop_61 rfl (lv_at hl 0 rfl) ?_
                refine x_get (pc := 62) (ci := 8) (T := TX8) (v := .ref a_t_s) C S 0 rfl rfl inlX8 0 (by decide) rfl qf_8_11 rfl dX8_stop_62 ?_
                refine lv_iconst (pc := 65) hx hb dX8_stop_65 ic_4 ?_
                refine x_iald (pc := 66) C S 1 rfl (vp_in_iff.mpr (by decide)) dX8_stop_66 ?_
                refine lv_bipush (pc := 67) hx hb dX8_stop_67 bc_16 ?_
                refine lv_icmp_ne (tgt := 75) (pc := 69) hx hb dX8_stop_69 (by decide) (fun c14 => ?_) (fun c14 => ?_)
                · have hf := ifn c14 hf
                  refine lv_aload_n (pc := 75) hx hb dX8_stop_75 rfl (lv_at hl 0 rfl) ?_
                  refine lv_iload_n (pc := 76) hx hb dX8_stop_76 rfl (lv_at hl 1 rfl) ?_
                  refine lv_iload_n (pc := 77) hx hb dX8_stop_77 rfl (lv_at hl 2 rfl) ?_
                  refine lv_iload_n (pc := 78) hx hb dX8_stop_78 rfl (lv_at hl 3 rfl) ?_
                  refine lv_iload (pc := 79) hx hb dX8_stop_79 (lv_at hl 4 rfl) ?_
                  refine lv_iload (pc := 81) hx hb dX8_stop_81 (lv_at hl 5 rfl) ?_
                  refine lv_iload (pc := 83) hx hb dX8_stop_83 (lv_at hl 6 rfl) ?_
                  obtain ⟨o15_t_s, hq15, hf⟩ := bd_e hf
                  refine x_vV (pc := 85) (As := [.int x1, .int x2, .int x3, .int x4, .int x5, .int x6]) (rest := []) (isC := [0, 1]) (ws' := (w_X8_stop G a_t a_t_s a_t_image a_t_mind a_t_aside a_t_text a_t_read a_t_comes a_t_begins a_t_latest a_t_move a_t_sort a_t_items a_t_cell a_t_carried t_isKept t_work t_kind t_letters t_at t_fault t_back t_waits t_miles t_loads t_bestRound t_bestPlace t_bestAdds t_regret t_z o15_t_s)) C S (c_X8_comes l G a_t a_t_s a_t_image a_t_mind a_t_aside a_t_text a_t_read a_t_comes a_t_begins a_t_latest a_t_move a_t_sort a_t_items a_t_cell a_t_carried t_isKept t_work t_kind t_letters t_at t_fault t_back t_waits t_miles t_loads t_bestRound t_bestPlace t_bestAdds t_regret t_z t_s x1 x2 x3 x4 x5 x6 o15_t_s hq15) (u_X8_stop_X8_comes_118 hts) (ci := 8) rfl 0 rfl rfl (by decide +kernel) [some 0, some 1] (by decide +kernel) rfl rfl rfl hl.1 rfl (Nat.le_of_ble_eq_true rfl) dX8_stop_85 (fun H locs S => ?_)
                  refine lv_aload_n (pc := 88) hx hb dX8_stop_88 rfl (lv_at hl 0 rfl) ?_
                  refine x_get (pc := 89) (ci := 8) (T := TX8) (v := .ref a_t_s) C S 0 rfl rfl inlX8 0 (by decide) rfl qf_8_11 rfl dX8_stop_89 ?_
                  refine lv_iconst (pc := 92) hx hb dX8_stop_92 ic_4 ?_
                  refine x_iald (pc := 93) C S 1 rfl (vp_in_iff.mpr (by decide)) dX8_stop_93 ?_
                  refine lv_iconst (pc := 94) hx hb dX8_stop_94 ic_1 ?_
                  refine lv_isub (pc := 95) hx hb dX8_stop_95 ?_
                  cases hf
                  exact x_iret (pc := 96) C S dX8_stop_96
                · have hf := ifp c14 hf
                  refine lv_bipush (pc := 72) hx hb dX8_stop_72 bc_m4 ?_
                  cases hf
                  exact x_iret (pc := 74) C S dX8_stop_74
              · have hf := ifp c13 hf
                refine lv_bipush (pc := 58) hx hb dX8_stop_58 bc_m2 ?_
                cases hf
                exact x_iret (pc := 60) C S dX8_stop_60
end

abbrev rm_X8_swap : Room := { frames := 6, cells := 0, slots := 0, locals := 146 }
abbrev kw_X8_swap : Cond := .code yX8_swap cX8_swap 3 (some .int)
abbrev w_X8_swap (G : GE) (a_t a_t_s a_t_image a_t_mind a_t_aside a_t_text a_t_read a_t_comes a_t_begins a_t_latest a_t_move a_t_sort a_t_items a_t_cell a_t_carried : Nat) (t_isKept : Int32) (t_work : Int32) (t_kind : Int32) (t_letters : Int32) (t_at : Int32) (t_fault : Int32) (t_back : Int32) (t_waits : Int32) (t_miles : Int32) (t_loads : Int32) (t_bestRound : Int32) (t_bestPlace : Int32) (t_bestAdds : Int32) (t_regret : Int32) (t_z : Int32) (t_s : Nat → Int32) (t_comes : Nat → Int32) (t_begins : Nat → Int32) : va_W := [(a_t, ob 8 [.ref a_t_s, .ref a_t_image, .ref a_t_mind, .ref a_t_aside, .int t_isKept, .int t_work, .int t_kind, .ref a_t_text, .ref a_t_read, .int t_letters, .int t_at, .int t_fault, .ref a_t_comes, .ref a_t_begins, .ref a_t_latest, .int t_back, .int t_waits, .int t_miles, .int t_loads, .int t_bestRound, .int t_bestPlace, .int t_bestAdds, .int t_regret, .ref a_t_move, .ref a_t_sort, .ref a_t_items, .ref a_t_cell, .ref a_t_carried, .int t_z]), (a_t_s, aI G 258 t_s), (a_t_comes, aI G 16 t_comes), (a_t_begins, aI G 16 t_begins)]
theorem u_X8_swap_X8_isStop_151 {s : State} {args : Array Value} (hts : ∀ w ∈ WU, w.before args s = true) : CallW rm_X8_swap s args RX8 RX8 151 yX8_isStop cX8_isStop 2 (some .boolean) (kw_X8_isStop :: WU) rm_X8_isStop 0 0 1 := cwV 1 hts (gV qm_8_151 qi_X8_isStop ql_X8_isStop qn_8 qc_X8_isStop) rfl rfl rfl (by decide +kernel) ⟨Nat.le_of_ble_eq_true rfl, Nat.le_of_ble_eq_true rfl⟩
theorem u_X8_swap_X8_roundOf_157 {s : State} {args : Array Value} (hts : ∀ w ∈ WU, w.before args s = true) : CallW rm_X8_swap s args RX8 RX8 157 yX8_roundOf cX8_roundOf 3 (some .int) (kw_X8_roundOf :: WU) rm_X8_roundOf 0 0 1 := cwV 1 hts (gV qm_8_157 qi_X8_roundOf ql_X8_roundOf qn_8 qc_X8_roundOf) rfl rfl rfl (by decide +kernel) ⟨Nat.le_of_ble_eq_true rfl, Nat.le_of_ble_eq_true rfl⟩
theorem u_X8_swap_X8_swapGains_230 {s : State} {args : Array Value} (hts : ∀ w ∈ WU, w.before args s = true) : CallW rm_X8_swap s args RX8 RX8 230 yX8_swapGains cX8_swapGains 7 (some .int) (kw_X8_swapGains :: WU) rm_X8_swapGains 0 0 2 := cwV 2 hts (gV qm_8_230 qi_X8_swapGains ql_X8_swapGains qn_8 qc_X8_swapGains) rfl rfl rfl (by decide +kernel) ⟨Nat.le_of_ble_eq_true rfl, Nat.le_of_ble_eq_true rfl⟩
section
variable {p : Program} {l : Launch} {e : Env} {s : State} {m : MethodId} {args : Array Value} {below : List Frame} {meth : Method} {c : Code} {A : Nat → Prop} {G : GE} {a_t a_t_s a_t_image a_t_mind a_t_aside a_t_text a_t_read a_t_comes a_t_begins a_t_latest a_t_move a_t_sort a_t_items a_t_cell a_t_carried : Nat} {r : Int32} {z_t_s : Nat → Int32} {z_t_comes : Nat → Int32} {z_t_begins : Nat → Int32} {z_t_back : Int32} {z_t_waits : Int32} {z_t_loads : Int32}
set_option maxRecDepth 100000 in
set_option maxHeartbeats 4000000 in
theorem c_X8_swap (l : Launch) (G : GE) (a_t a_t_s a_t_image a_t_mind a_t_aside a_t_text a_t_read a_t_comes a_t_begins a_t_latest a_t_move a_t_sort a_t_items a_t_cell a_t_carried : Nat) (t_isKept : Int32) (t_work : Int32) (t_kind : Int32) (t_letters : Int32) (t_at : Int32) (t_fault : Int32) (t_back : Int32) (t_waits : Int32) (t_miles : Int32) (t_loads : Int32) (t_bestRound : Int32) (t_bestPlace : Int32) (t_bestAdds : Int32) (t_regret : Int32) (t_z : Int32) (t_s : Nat → Int32) (t_comes : Nat → Int32) (t_begins : Nat → Int32) (x1 : Int32) (x2 : Int32) (r : Int32) (z_t_s : Nat → Int32) (z_t_comes : Nat → Int32) (z_t_begins : Nat → Int32) (z_t_back : Int32) (z_t_waits : Int32) (z_t_loads : Int32) (hf : f_X8_swap t_s t_comes t_begins t_back t_waits t_loads x1 x2 = some (r, z_t_s, z_t_comes, z_t_begins, z_t_back, z_t_waits, z_t_loads)) : CI l G yX8_swap kw_X8_swap rm_X8_swap [.ref a_t, .int x1, .int x2] (w_X8_swap G a_t a_t_s a_t_image a_t_mind a_t_aside a_t_text a_t_read a_t_comes a_t_begins a_t_latest a_t_move a_t_sort a_t_items a_t_cell a_t_carried t_isKept t_work t_kind t_letters t_at t_fault t_back t_waits t_miles t_loads t_bestRound t_bestPlace t_bestAdds t_regret t_z t_s t_comes t_begins) r (w_X8_swap G a_t a_t_s a_t_image a_t_mind a_t_aside a_t_text a_t_read a_t_comes a_t_begins a_t_latest a_t_move a_t_sort a_t_items a_t_cell a_t_carried t_isKept t_work t_kind t_letters t_at t_fault z_t_back z_t_waits t_miles z_t_loads t_bestRound t_bestPlace t_bestAdds t_regret t_z z_t_s z_t_comes z_t_begins) := by
  refine en_I (cc := cX8_swap) (maxL := 3) (ret := (some .int)) (by decide +kernel) (Nat.le_of_ble_eq_true rfl) ?_
  intro p e s m args below meth c A ls C S hl
  have hl : lv_has ls 3 [(0, .ref a_t), (1, .int x1), (2, .int x2)] := hl
  have C : Cx p s m args meth c cX8_swap (some .int) 3 RX8 G A := C
  unfold f_X8_swap at hf
  have hx := C.1
  have hb := C.2.1
  have hown := C.2.2.2.2.1
  have hts := C.2.2.2.2.2.1
  have hN := C.2.2.2.2.2.2.2.2.2.2
  refine lv_aload_n (pc := 0) hx hb dX8_swap_0 rfl (lv_at hl 0 rfl) ?_
  refine lv_iload_n (pc := 1) hx hb dX8_swap_1 rfl (lv_at hl 1 rfl) ?_
  obtain ⟨r1, hq1, hf⟩ := bd_e hf
  refine x_vI (pc := 2) (As := [.int x1]) (rest := []) (isC := [0, 1]) (ws' := (w_X8_swap G a_t a_t_s a_t_image a_t_mind a_t_aside a_t_text a_t_read a_t_comes a_t_begins a_t_latest a_t_move a_t_sort a_t_items a_t_cell a_t_carried t_isKept t_work t_kind t_letters t_at t_fault t_back t_waits t_miles t_loads t_bestRound t_bestPlace t_bestAdds t_regret t_z t_s t_comes t_begins)) C S (c_X8_isStop l G a_t a_t_s a_t_image a_t_mind a_t_aside a_t_text a_t_read a_t_comes a_t_begins a_t_latest a_t_move a_t_sort a_t_items a_t_cell a_t_carried t_isKept t_work t_kind t_letters t_at t_fault t_back t_waits t_miles t_loads t_bestRound t_bestPlace t_bestAdds t_regret t_z t_s x1 r1 hq1) (u_X8_swap_X8_isStop_151 hts) (ci := 8) rfl 0 rfl rfl (by decide +kernel) [some 0, some 1, none, none] (by decide +kernel) rfl rfl rfl hl.1 rfl (Nat.le_of_ble_eq_true rfl) dX8_swap_2 (fun H locs S => ?_)
  refine lv_if_eq (tgt := 21) (pc := 5) hx hb dX8_swap_5 (by decide) (fun c2 => ?_) (fun c2 => ?_)
  · have hf := ifp c2 hf
    refine lv_iconst (pc := 21) hx hb dX8_swap_21 ic_m1 ?_
    cases hf
    exact x_iret (pc := 22) C S dX8_swap_22
  · have hf := ifn c2 hf
    refine lv_aload_n (pc := 8) hx hb dX8_swap_8 rfl (lv_at hl 0 rfl) ?_
    refine lv_iload_n (pc := 9) hx hb dX8_swap_9 rfl (lv_at hl 2 rfl) ?_
    obtain ⟨r3, hq3, hf⟩ := bd_e hf
    refine x_vI (pc := 10) (As := [.int x2]) (rest := []) (isC := [0, 1]) (ws' := (w_X8_swap G a_t a_t_s a_t_image a_t_mind a_t_aside a_t_text a_t_read a_t_comes a_t_begins a_t_latest a_t_move a_t_sort a_t_items a_t_cell a_t_carried t_isKept t_work t_kind t_letters t_at t_fault t_back t_waits t_miles t_loads t_bestRound t_bestPlace t_bestAdds t_regret t_z t_s t_comes t_begins)) C S (c_X8_isStop l G a_t a_t_s a_t_image a_t_mind a_t_aside a_t_text a_t_read a_t_comes a_t_begins a_t_latest a_t_move a_t_sort a_t_items a_t_cell a_t_carried t_isKept t_work t_kind t_letters t_at t_fault t_back t_waits t_miles t_loads t_bestRound t_bestPlace t_bestAdds t_regret t_z t_s x2 r3 hq3) (u_X8_swap_X8_isStop_151 hts) (ci := 8) rfl 0 rfl rfl (by decide +kernel) [some 0, some 1, none, none] (by decide +kernel) rfl rfl rfl hl.1 rfl (Nat.le_of_ble_eq_true rfl) dX8_swap_10 (fun H locs S => ?_)
    refine lv_if_eq (tgt := 21) (pc := 13) hx hb dX8_swap_13 (by decide) (fun c4 => ?_) (fun c4 => ?_)
    · have hf := ifp c4 hf
      refine lv_iconst (pc := 21) hx hb dX8_swap_21 ic_m1 ?_
      cases hf
      exact x_iret (pc := 22) C S dX8_swap_22
    · have hf := ifn c4 hf
      refine lv_iload_n (pc := 16) hx hb dX8_swap_16 rfl (lv_at hl 1 rfl) ?_
      refine lv_iload_n (pc := 17) hx hb dX8_swap_17 rfl (lv_at hl 2 rfl) ?_
      refine lv_icmp_ne (tgt := 23) (pc := 18) hx hb dX8_swap_18 (by decide) (fun c5 => ?_) (fun c5 => ?_)
      · have hf := ifn c5 hf
        refine lv_aload_n (pc := 23) hx hb dX8_swap_23 rfl (lv_at hl 0 rfl) ?_
        refine lv_iload_n (pc := 24) hx hb dX8_swap_24 rfl (lv_at hl 1 rfl) ?_
        obtain ⟨r6, hq6, hf⟩ := bd_e hf
        refine x_vI (pc := 25) (As := [.int x1]) (rest := []) (isC := [0, 1]) (ws' := (w_X8_swap G a_t a_t_s a_t_image a_t_mind a_t_aside a_t_text a_t_read a_t_comes a_t_begins a_t_latest a_t_move a_t_sort a_t_items a_t_cell a_t_carried t_isKept t_work t_kind t_letters t_at t_fault t_back t_waits t_miles t_loads t_bestRound t_bestPlace t_bestAdds t_regret t_z t_s t_comes t_begins)) C S (c_X8_roundOf l G a_t a_t_s a_t_image a_t_mind a_t_aside a_t_text a_t_read a_t_comes a_t_begins a_t_latest a_t_move a_t_sort a_t_items a_t_cell a_t_carried t_isKept t_work t_kind t_letters t_at t_fault t_back t_waits t_miles t_loads t_bestRound t_bestPlace t_bestAdds t_regret t_z t_s x1 r6 hq6) (u_X8_swap_X8_roundOf_157 hts) (ci := 8) rfl 0 rfl rfl (by decide +kernel) [some 0, some 1, none, none] (by decide +kernel) rfl rfl rfl hl.1 rfl (Nat.le_of_ble_eq_true rfl) dX8_swap_25 (fun H locs S => ?_)
        refine lv_if_lt (tgt := 39) (pc := 28) hx hb dX8_swap_28 (by decide) (fun c7 => ?_) (fun c7 => ?_)
        · have hf := ifp c7 hf
          refine lv_bipush (pc := 39) hx hb dX8_swap_39 bc_m3 ?_
          refine lv_goto (tgt := 50) (pc := 41) hx hb dX8_swap_41 (by decide) ?_
          cases hf
          exact x_iret (pc := 50) C S dX8_swap_50
        · have hf := ifn c7 hf
          refine lv_aload_n (pc := 31) hx hb dX8_swap_31 rfl (lv_at hl 0 rfl) ?_
          refine lv_iload_n (pc := 32) hx hb dX8_swap_32 rfl (lv_at hl 2 rfl) ?_
          obtain ⟨r8, hq8, hf⟩ := bd_e hf
          refine x_vI (pc := 33) (As := [.int x2]) (rest := []) (isC := [0, 1]) (ws' := (w_X8_swap G a_t a_t_s a_t_image a_t_mind a_t_aside a_t_text a_t_read a_t_comes a_t_begins a_t_latest a_t_move a_t_sort a_t_items a_t_cell a_t_carried t_isKept t_work t_kind t_letters t_at t_fault t_back t_waits t_miles t_loads t_bestRound t_bestPlace t_bestAdds t_regret t_z t_s t_comes t_begins)) C S (c_X8_roundOf l G a_t a_t_s a_t_image a_t_mind a_t_aside a_t_text a_t_read a_t_comes a_t_begins a_t_latest a_t_move a_t_sort a_t_items a_t_cell a_t_carried t_isKept t_work t_kind t_letters t_at t_fault t_back t_waits t_miles t_loads t_bestRound t_bestPlace t_bestAdds t_regret t_z t_s x2 r8 hq8) (u_X8_swap_X8_roundOf_157 hts) (ci := 8) rfl 0 rfl rfl (by decide +kernel) [some 0, some 1, none, none] (by decide +kernel) rfl rfl rfl hl.1 rfl (Nat.le_of_ble_eq_true rfl) dX8_swap_33 (fun H locs S => ?_)
          refine lv_if_ge (tgt := 44) (pc := 36) hx hb dX8_swap_36 (by decide) (fun c9 => ?_) (fun c9 => ?_)
          · have hf := ifp c9 hf
            refine lv_aload_n (pc := 44) hx hb dX8_swap_44 rfl (lv_at hl 0 rfl) ?_
            refine lv_iload_n (pc := 45) hx hb dX8_swap_45 rfl (lv_at hl 1 rfl) ?_
            refine lv_iload_n (pc := 46) hx hb dX8_swap_46 rfl (lv_at hl 2 rfl) ?_
            obtain ⟨⟨r10, o10_t_s, o10_t_comes, o10_t_begins, o10_t_back, o10_t_waits, o10_t_loads⟩, hq10, hf⟩ := bd_e hf
            refine x_vI (pc := 47) (As := [.int x1, .int x2]) (rest := []) (isC := [0, 1, 2, 3]) (ws' := (w_X8_swap G a_t a_t_s a_t_image a_t_mind a_t_aside a_t_text a_t_read a_t_comes a_t_begins a_t_latest a_t_move a_t_sort a_t_items a_t_cell a_t_carried t_isKept t_work t_kind t_letters t_at t_fault o10_t_back o10_t_waits t_miles o10_t_loads t_bestRound t_bestPlace t_bestAdds t_regret t_z o10_t_s o10_t_comes o10_t_begins)) C S (c_X8_swapGains l G a_t a_t_s a_t_image a_t_mind a_t_aside a_t_text a_t_read a_t_comes a_t_begins a_t_latest a_t_move a_t_sort a_t_items a_t_cell a_t_carried t_isKept t_work t_kind t_letters t_at t_fault t_back t_waits t_miles t_loads t_bestRound t_bestPlace t_bestAdds t_regret t_z t_s t_comes t_begins x1 x2 r10 o10_t_s o10_t_comes o10_t_begins o10_t_back o10_t_waits o10_t_loads hq10) (u_X8_swap_X8_swapGains_230 hts) (ci := 8) rfl 0 rfl rfl (by decide +kernel) [some 0, some 1, some 2, some 3] (by decide +kernel) rfl rfl rfl hl.1 rfl (Nat.le_of_ble_eq_true rfl) dX8_swap_47 (fun H locs S => ?_)
            cases hf
            exact x_iret (pc := 50) C S dX8_swap_50
          · have hf := ifn c9 hf
            refine lv_bipush (pc := 39) hx hb dX8_swap_39 bc_m3 ?_
            refine lv_goto (tgt := 50) (pc := 41) hx hb dX8_swap_41 (by decide) ?_
            cases hf
            exact x_iret (pc := 50) C S dX8_swap_50
      · have hf := ifp c5 hf
        refine lv_iconst (pc := 21) hx hb dX8_swap_21 ic_m1 ?_
        cases hf
        exact x_iret (pc := 22) C S dX8_swap_22
end

abbrev rm_X8_taken : Room := { frames := 1, cells := 0, slots := 0, locals := 22 }
abbrev kw_X8_taken : Cond := .code yX8_taken cX8_taken 2 (some .int)
abbrev w_X8_taken (G : GE) (a_t a_t_s a_t_image a_t_mind a_t_aside a_t_text a_t_read a_t_comes a_t_begins a_t_latest a_t_move a_t_sort a_t_items a_t_cell a_t_carried : Nat) (t_isKept : Int32) (t_work : Int32) (t_kind : Int32) (t_letters : Int32) (t_at : Int32) (t_fault : Int32) (t_back : Int32) (t_waits : Int32) (t_miles : Int32) (t_loads : Int32) (t_bestRound : Int32) (t_bestPlace : Int32) (t_bestAdds : Int32) (t_regret : Int32) (t_z : Int32) : va_W := [(a_t, ob 8 [.ref a_t_s, .ref a_t_image, .ref a_t_mind, .ref a_t_aside, .int t_isKept, .int t_work, .int t_kind, .ref a_t_text, .ref a_t_read, .int t_letters, .int t_at, .int t_fault, .ref a_t_comes, .ref a_t_begins, .ref a_t_latest, .int t_back, .int t_waits, .int t_miles, .int t_loads, .int t_bestRound, .int t_bestPlace, .int t_bestAdds, .int t_regret, .ref a_t_move, .ref a_t_sort, .ref a_t_items, .ref a_t_cell, .ref a_t_carried, .int t_z])]
theorem u_X8_taken_X8_isIn_55 {s : State} {args : Array Value} (hts : ∀ w ∈ WU, w.before args s = true) : CallB rm_X8_taken s args RX8 55 yX8_isIn cX8_isIn 3 (some .boolean) (kw_X8_isIn :: WU) rm_X8_isIn 0 0 3 ∧ (Cond.static yX8_isIn).before args s = true := va_cwS 3 hts (gS qm_8_55 qs_X8_isIn qn_8 qc_X8_isIn) rfl rfl rfl (by decide +kernel) ⟨Nat.le_of_ble_eq_true rfl, Nat.le_of_ble_eq_true rfl⟩
section
variable {p : Program} {l : Launch} {e : Env} {s : State} {m : MethodId} {args : Array Value} {below : List Frame} {meth : Method} {c : Code} {A : Nat → Prop} {G : GE} {a_t a_t_s a_t_image a_t_mind a_t_aside a_t_text a_t_read a_t_comes a_t_begins a_t_latest a_t_move a_t_sort a_t_items a_t_cell a_t_carried : Nat} {r : Int32}
set_option maxRecDepth 100000 in
set_option maxHeartbeats 4000000 in
theorem c_X8_taken (l : Launch) (G : GE) (a_t a_t_s a_t_image a_t_mind a_t_aside a_t_text a_t_read a_t_comes a_t_begins a_t_latest a_t_move a_t_sort a_t_items a_t_cell a_t_carried : Nat) (t_isKept : Int32) (t_work : Int32) (t_kind : Int32) (t_letters : Int32) (t_at : Int32) (t_fault : Int32) (t_back : Int32) (t_waits : Int32) (t_miles : Int32) (t_loads : Int32) (t_bestRound : Int32) (t_bestPlace : Int32) (t_bestAdds : Int32) (t_regret : Int32) (t_z : Int32) (x1 : Int32) (r : Int32) (hf : f_X8_taken t_kind x1 = some r) : CI l G yX8_taken kw_X8_taken rm_X8_taken [.ref a_t, .int x1] (w_X8_taken G a_t a_t_s a_t_image a_t_mind a_t_aside a_t_text a_t_read a_t_comes a_t_begins a_t_latest a_t_move a_t_sort a_t_items a_t_cell a_t_carried t_isKept t_work t_kind t_letters t_at t_fault t_back t_waits t_miles t_loads t_bestRound t_bestPlace t_bestAdds t_regret t_z) r (w_X8_taken G a_t a_t_s a_t_image a_t_mind a_t_aside a_t_text a_t_read a_t_comes a_t_begins a_t_latest a_t_move a_t_sort a_t_items a_t_cell a_t_carried t_isKept t_work t_kind t_letters t_at t_fault t_back t_waits t_miles t_loads t_bestRound t_bestPlace t_bestAdds t_regret t_z) := by
  refine en_I (cc := cX8_taken) (maxL := 2) (ret := (some .int)) (by decide +kernel) (Nat.le_of_ble_eq_true rfl) ?_
  intro p e s m args below meth c A ls C S hl
  have hl : lv_has ls 2 [(0, .ref a_t), (1, .int x1)] := hl
  have C : Cx p s m args meth c cX8_taken (some .int) 2 RX8 G A := C
  unfold f_X8_taken at hf
  have hx := C.1
  have hb := C.2.1
  have hown := C.2.2.2.2.1
  have hts := C.2.2.2.2.2.1
  have hN := C.2.2.2.2.2.2.2.2.2.2
  refine lv_iload_n (pc := 0) hx hb dX8_taken_0 rfl (lv_at hl 1 rfl) ?_
  refine lv_iconst (pc := 1) hx hb dX8_taken_1 ic_0 ?_
  refine lv_iconst (pc := 2) hx hb dX8_taken_2 ic_4 ?_
  obtain ⟨r1, hq1, hf⟩ := bd_e hf
  refine x_sI (pc := 3) (As := [.int x1, .int (0 : Int32), .int (4 : Int32)]) (rest := []) (isC := []) (ws' := (w_X8_taken G a_t a_t_s a_t_image a_t_mind a_t_aside a_t_text a_t_read a_t_comes a_t_begins a_t_latest a_t_move a_t_sort a_t_items a_t_cell a_t_carried t_isKept t_work t_kind t_letters t_at t_fault t_back t_waits t_miles t_loads t_bestRound t_bestPlace t_bestAdds t_regret t_z)) C S (c_X8_isIn l G x1 (0 : Int32) (4 : Int32) r1 hq1) (u_X8_taken_X8_isIn_55 hts) rfl (by decide +kernel) [none] (by decide +kernel) rfl rfl rfl hl.1 rfl (Nat.le_of_ble_eq_true rfl) dX8_taken_3 (fun H locs S => ?_)
  refine lv_if_ne (tgt := 12) (pc := 6) hx hb dX8_taken_6 (by decide) (fun c2 => ?_) (fun c2 => ?_)
  · have hf := ifn c2 hf
    refine lv_aload_n (pc := 12) hx hb dX8_taken_12 rfl (lv_at hl 0 rfl) ?_
    refine x_get (pc := 13) (ci := 8) (T := TX8) (v := .int t_kind) C S 0 rfl rfl inlX8 6 (by decide) rfl qf_8_248 rfl dX8_taken_13 ?_
    refine lv_if_ne (tgt := 22) (pc := 16) hx hb dX8_taken_16 (by decide) (fun c3 => ?_) (fun c3 => ?_)
    · have hf := ifn c3 hf
      refine lv_iload_n (pc := 22) hx hb dX8_taken_22 rfl (lv_at hl 1 rfl) ?_
      refine lv_if_eq (tgt := 47) (pc := 23) hx hb dX8_taken_23 (by decide) (fun c4 => ?_) (fun c4 => ?_)
      · have hf := ifp c4 hf
        refine lv_aload_n (pc := 47) hx hb dX8_taken_47 rfl (lv_at hl 0 rfl) ?_
        refine x_get (pc := 48) (ci := 8) (T := TX8) (v := .int t_kind) C S 0 rfl rfl inlX8 6 (by decide) rfl qf_8_248 rfl dX8_taken_48 ?_
        refine lv_goto (tgt := 56) (pc := 51) hx hb dX8_taken_51 (by decide) ?_
        cases hf
        exact x_iret (pc := 56) C S dX8_taken_56
      · have hf := ifn c4 hf
        refine lv_iload_n (pc := 26) hx hb dX8_taken_26 rfl (lv_at hl 1 rfl) ?_
        refine lv_aload_n (pc := 27) hx hb dX8_taken_27 rfl (lv_at hl 0 rfl) ?_
        refine x_get (pc := 28) (ci := 8) (T := TX8) (v := .int t_kind) C S 0 rfl rfl inlX8 6 (by decide) rfl qf_8_248 rfl dX8_taken_28 ?_
        refine lv_icmp_eq (tgt := 47) (pc := 31) hx hb dX8_taken_31 (by decide) (fun c5 => ?_) (fun c5 => ?_)
        · have hf := ifp c5 hf
          refine lv_aload_n (pc := 47) hx hb dX8_taken_47 rfl (lv_at hl 0 rfl) ?_
          refine x_get (pc := 48) (ci := 8) (T := TX8) (v := .int t_kind) C S 0 rfl rfl inlX8 6 (by decide) rfl qf_8_248 rfl dX8_taken_48 ?_
          refine lv_goto (tgt := 56) (pc := 51) hx hb dX8_taken_51 (by decide) ?_
          cases hf
          exact x_iret (pc := 56) C S dX8_taken_56
        · have hf := ifn c5 hf
          refine lv_iload_n (pc := 34) hx hb dX8_taken_34 rfl (lv_at hl 1 rfl) ?_
          refine lv_iconst (pc := 35) hx hb dX8_taken_35 ic_4 ?_
          refine lv_icmp_ne (tgt := 54) (pc := 36) hx hb dX8_taken_36 (by decide) (fun c6 => ?_) (fun c6 => ?_)
          · have hf := ifn c6 hf
            refine lv_bipush (pc := 54) hx hb dX8_taken_54 bc_m12 ?_
            cases hf
            exact x_iret (pc := 56) C S dX8_taken_56
          · have hf := ifp c6 hf
            refine lv_aload_n (pc := 39) hx hb dX8_taken_39 rfl (lv_at hl 0 rfl) ?_
            refine x_get (pc := 40) (ci := 8) (T := TX8) (v := .int t_kind) C S 0 rfl rfl inlX8 6 (by decide) rfl qf_8_248 rfl dX8_taken_40 ?_
            refine lv_iconst (pc := 43) hx hb dX8_taken_43 ic_1 ?_
            refine lv_icmp_le (tgt := 54) (pc := 44) hx hb dX8_taken_44 (by decide) (fun c7 => ?_) (fun c7 => ?_)
            · have hf := ifp c7 hf
              refine lv_bipush (pc := 54) hx hb dX8_taken_54 bc_m12 ?_
              cases hf
              exact x_iret (pc := 56) C S dX8_taken_56
            · have hf := ifn c7 hf
              refine lv_aload_n (pc := 47) hx hb dX8_taken_47 rfl (lv_at hl 0 rfl) ?_
              refine x_get (pc := 48) (ci := 8) (T := TX8) (v := .int t_kind) C S 0 rfl rfl inlX8 6 (by decide) rfl qf_8_248 rfl dX8_taken_48 ?_
              refine lv_goto (tgt := 56) (pc := 51) hx hb dX8_taken_51 (by decide) ?_
              cases hf
              exact x_iret (pc := 56) C S dX8_taken_56
    · have hf := ifp c3 hf
      refine lv_bipush (pc := 19) hx hb dX8_taken_19 bc_m11 ?_
      cases hf
      exact x_iret (pc := 21) C S dX8_taken_21
  · have hf := ifp c2 hf
    refine lv_bipush (pc := 9) hx hb dX8_taken_9 bc_m2 ?_
    cases hf
    exact x_iret (pc := 11) C S dX8_taken_11
end

abbrev rm_X8_tape : Room := { frames := 2, cells := 0, slots := 0, locals := 42 }
abbrev kw_X8_tape : Cond := .code yX8_tape cX8_tape 5 (some .int)
abbrev w_X8_tape (G : GE) (a_t a_t_s a_t_image a_t_mind a_t_aside a_t_text a_t_read a_t_comes a_t_begins a_t_latest a_t_move a_t_sort a_t_items a_t_cell a_t_carried : Nat) (t_isKept : Int32) (t_work : Int32) (t_kind : Int32) (t_letters : Int32) (t_at : Int32) (t_fault : Int32) (t_back : Int32) (t_waits : Int32) (t_miles : Int32) (t_loads : Int32) (t_bestRound : Int32) (t_bestPlace : Int32) (t_bestAdds : Int32) (t_regret : Int32) (t_z : Int32) (t_sort : Nat → Int32) (t_items : Nat → Int32) (t_cell : Nat → Int64) : va_W := [(a_t, ob 8 [.ref a_t_s, .ref a_t_image, .ref a_t_mind, .ref a_t_aside, .int t_isKept, .int t_work, .int t_kind, .ref a_t_text, .ref a_t_read, .int t_letters, .int t_at, .int t_fault, .ref a_t_comes, .ref a_t_begins, .ref a_t_latest, .int t_back, .int t_waits, .int t_miles, .int t_loads, .int t_bestRound, .int t_bestPlace, .int t_bestAdds, .int t_regret, .ref a_t_move, .ref a_t_sort, .ref a_t_items, .ref a_t_cell, .ref a_t_carried, .int t_z]), (a_t_sort, aI G 6 t_sort), (a_t_items, aI G 6 t_items), (a_t_cell, aJ G 360 t_cell)]
theorem u_X8_tape_X8_isTape_285 {s : State} {args : Array Value} (hts : ∀ w ∈ WU, w.before args s = true) : CallB rm_X8_tape s args RX8 285 yX8_isTape cX8_isTape 1 (some .boolean) (kw_X8_isTape :: WU) rm_X8_isTape 0 0 1 ∧ (Cond.static yX8_isTape).before args s = true := va_cwS 1 hts (gS qm_8_285 qs_X8_isTape qn_8 qc_X8_isTape) rfl rfl rfl (by decide +kernel) ⟨Nat.le_of_ble_eq_true rfl, Nat.le_of_ble_eq_true rfl⟩
theorem u_X8_tape_X8_isIn_55 {s : State} {args : Array Value} (hts : ∀ w ∈ WU, w.before args s = true) : CallB rm_X8_tape s args RX8 55 yX8_isIn cX8_isIn 3 (some .boolean) (kw_X8_isIn :: WU) rm_X8_isIn 0 0 3 ∧ (Cond.static yX8_isIn).before args s = true := va_cwS 3 hts (gS qm_8_55 qs_X8_isIn qn_8 qc_X8_isIn) rfl rfl rfl (by decide +kernel) ⟨Nat.le_of_ble_eq_true rfl, Nat.le_of_ble_eq_true rfl⟩
section
variable {p : Program} {l : Launch} {e : Env} {s : State} {m : MethodId} {args : Array Value} {below : List Frame} {meth : Method} {c : Code} {A : Nat → Prop} {G : GE} {a_t a_t_s a_t_image a_t_mind a_t_aside a_t_text a_t_read a_t_comes a_t_begins a_t_latest a_t_move a_t_sort a_t_items a_t_cell a_t_carried : Nat} {r : Int32} {z_t_sort : Nat → Int32} {z_t_items : Nat → Int32} {z_t_cell : Nat → Int64}
set_option maxRecDepth 100000 in
set_option maxHeartbeats 4000000 in
theorem k_X8_tape_67 (C : Cx p s m args meth c cX8_tape (some .int) 5 RX8 G A) (t_isKept : Int32) (t_work : Int32) (t_kind : Int32) (t_letters : Int32) (t_at : Int32) (t_fault : Int32) (t_back : Int32) (t_waits : Int32) (t_miles : Int32) (t_loads : Int32) (t_bestRound : Int32) (t_bestPlace : Int32) (t_bestAdds : Int32) (t_regret : Int32) (t_z : Int32) (t_sort : Nat → Int32) (t_items : Nat → Int32) (t_cell : Nat → Int64) (x1 : Int32) (x4 : Int32) (k67 : Int32 × (Nat → Int64) → Option (Int32 × (Nat → Int32) × (Nat → Int32) × (Nat → Int64))) (hk67 : ∀ {H : Heap} {locs : List Loc} {ls : Array Slot} (x4' : Int32) (t_cell' : Nat → Int64), k67 (x4', t_cell') = some (r, z_t_sort, z_t_items, z_t_cell) → St G A s.heap H locs (w_X8_tape G a_t a_t_s a_t_image a_t_mind a_t_aside a_t_text a_t_read a_t_comes a_t_begins a_t_latest a_t_move a_t_sort a_t_items a_t_cell a_t_carried t_isKept t_work t_kind t_letters t_at t_fault t_back t_waits t_miles t_loads t_bestRound t_bestPlace t_bestAdds t_regret t_z t_sort t_items t_cell') → lv_has ls 5 [(0, .ref a_t), (1, .int x1), (4, .int x4')] → W p l e rm_X8_tape s m args below meth c H locs 0 0 (QI G below args s A r (w_X8_tape G a_t a_t_s a_t_image a_t_mind a_t_aside a_t_text a_t_read a_t_comes a_t_begins a_t_latest a_t_move a_t_sort a_t_items a_t_cell a_t_carried t_isKept t_work t_kind t_letters t_at t_fault t_back t_waits t_miles t_loads t_bestRound t_bestPlace t_bestAdds t_regret t_z z_t_sort z_t_items z_t_cell)) (F0 m 67 ls [])) {H : Heap} {locs : List Loc} {ls : Array Slot} (hf : b_X8_tape_67 x1 t_sort t_items k67 x4 t_cell = some (r, z_t_sort, z_t_items, z_t_cell)) (S : St G A s.heap H locs (w_X8_tape G a_t a_t_s a_t_image a_t_mind a_t_aside a_t_text a_t_read a_t_comes a_t_begins a_t_latest a_t_move a_t_sort a_t_items a_t_cell a_t_carried t_isKept t_work t_kind t_letters t_at t_fault t_back t_waits t_miles t_loads t_bestRound t_bestPlace t_bestAdds t_regret t_z t_sort t_items t_cell)) (hl : lv_has ls 5 [(0, .ref a_t), (1, .int x1), (4, .int x4)]) : W p l e rm_X8_tape s m args below meth c H locs 0 0 (QI G below args s A r (w_X8_tape G a_t a_t_s a_t_image a_t_mind a_t_aside a_t_text a_t_read a_t_comes a_t_begins a_t_latest a_t_move a_t_sort a_t_items a_t_cell a_t_carried t_isKept t_work t_kind t_letters t_at t_fault t_back t_waits t_miles t_loads t_bestRound t_bestPlace t_bestAdds t_regret t_z z_t_sort z_t_items z_t_cell)) (F0 m 67 ls []) := by
  unfold b_X8_tape_67 at hf
  have hx := C.1
  have hb := C.2.1
  have hown := C.2.2.2.2.1
  have hts := C.2.2.2.2.2.1
  have hN := C.2.2.2.2.2.2.2.2.2.2
  refine lv_iload (pc := 67) hx hb dX8_tape_67 (lv_at hl 2 rfl) ?_
  refine lv_aload_n (pc := 69) hx hb dX8_tape_69 rfl (lv_at hl 0 rfl) ?_
  refine x_get (pc := 70) (ci := 8) (T := TX8) (v := .ref a_t_items) C S 0 rfl rfl inlX8 25 (by decide) rfl qf_8_45 rfl dX8_tape_70 ?_
  refine lv_iload_n (pc := 73) hx hb dX8_tape_73 rfl (lv_at hl 1 rfl) ?_
  obtain ⟨hv1, hf⟩ := gI_e hf
  refine x_iald (pc := 74) C S 2 rfl hv1 dX8_tape_74 ?_
  refine lv_icmp_ge (tgt := 97) (pc := 75) hx hb dX8_tape_75 (by decide) (fun c2 => ?_) (fun c2 => ?_)
  · have hf := ifp c2 hf
    refine lv_iconst (pc := 97) hx hb dX8_tape_97 ic_1 ?_
    cases hf
    exact x_iret (pc := 98) C S dX8_tape_98
  · have hf := ifn c2 hf
    refine lv_aload_n (pc := 78) hx hb dX8_tape_78 rfl (lv_at hl 0 rfl) ?_
    refine x_get (pc := 79) (ci := 8) (T := TX8) (v := .ref a_t_cell) C S 0 rfl rfl inlX8 26 (by decide) rfl qf_8_48 rfl dX8_tape_79 ?_
    refine lv_bipush (pc := 82) hx hb dX8_tape_82 bc_60 ?_
    refine lv_iload_n (pc := 84) hx hb dX8_tape_84 rfl (lv_at hl 1 rfl) ?_
    refine lv_imul (pc := 85) hx hb dX8_tape_85 ?_
    refine lv_iload (pc := 86) hx hb dX8_tape_86 (lv_at hl 2 rfl) ?_
    refine lv_iadd (pc := 88) hx hb dX8_tape_88 ?_
    refine lv_lconst (pc := 89) hx hb dX8_tape_89 lc_0 ?_
    obtain ⟨hv3, hf⟩ := gI_e hf
    refine x_last (pc := 90) (ws' := (w_X8_tape G a_t a_t_s a_t_image a_t_mind a_t_aside a_t_text a_t_read a_t_comes a_t_begins a_t_latest a_t_move a_t_sort a_t_items a_t_cell a_t_carried t_isKept t_work t_kind t_letters t_at t_fault t_back t_waits t_miles t_loads t_bestRound t_bestPlace t_bestAdds t_regret t_z t_sort t_items (vp_updL t_cell (((60 : Int32) * x1) + x4).toNatClampNeg (0 : Int64)))) C S 3 rfl hv3 rfl dX8_tape_90 (fun H locs S => ?_)
    refine lv_iinc (pc := 91) (v := (x4 + (1 : Int32))) (lv' := [(4, .int (x4 + (1 : Int32))), (0, .ref a_t), (1, .int x1)]) hx hb dX8_tape_91 hl (k := 2) rfl (congrArg (fun z => x4 + z) ic_1) (by decide) rfl (fun ls hl => ?_)
    refine lv_goto (tgt := 67) (pc := 94) hx hb dX8_tape_94 (by decide) ?_
    exact hk67 ((x4 + (1 : Int32))) ((vp_updL t_cell (((60 : Int32) * x1) + x4).toNatClampNeg (0 : Int64)))  hf S (lv_sub hl [1, 2, 0] rfl)
set_option maxRecDepth 100000 in
set_option maxHeartbeats 4000000 in
theorem h_X8_tape_67 (C : Cx p s m args meth c cX8_tape (some .int) 5 RX8 G A) (t_isKept : Int32) (t_work : Int32) (t_kind : Int32) (t_letters : Int32) (t_at : Int32) (t_fault : Int32) (t_back : Int32) (t_waits : Int32) (t_miles : Int32) (t_loads : Int32) (t_bestRound : Int32) (t_bestPlace : Int32) (t_bestAdds : Int32) (t_regret : Int32) (t_z : Int32) (t_sort : Nat → Int32) (t_items : Nat → Int32) (x1 : Int32) : ∀ (n : Nat) (x4 : Int32) (t_cell : Nat → Int64) {H : Heap} {locs : List Loc} {ls : Array Slot} (hf : lp (fun k x => b_X8_tape_67 x1 t_sort t_items k x.1 x.2) n (x4, t_cell) = some (r, z_t_sort, z_t_items, z_t_cell)) (S : St G A s.heap H locs (w_X8_tape G a_t a_t_s a_t_image a_t_mind a_t_aside a_t_text a_t_read a_t_comes a_t_begins a_t_latest a_t_move a_t_sort a_t_items a_t_cell a_t_carried t_isKept t_work t_kind t_letters t_at t_fault t_back t_waits t_miles t_loads t_bestRound t_bestPlace t_bestAdds t_regret t_z t_sort t_items t_cell)) (hl : lv_has ls 5 [(0, .ref a_t), (1, .int x1), (4, .int x4)]), W p l e rm_X8_tape s m args below meth c H locs 0 0 (QI G below args s A r (w_X8_tape G a_t a_t_s a_t_image a_t_mind a_t_aside a_t_text a_t_read a_t_comes a_t_begins a_t_latest a_t_move a_t_sort a_t_items a_t_cell a_t_carried t_isKept t_work t_kind t_letters t_at t_fault t_back t_waits t_miles t_loads t_bestRound t_bestPlace t_bestAdds t_regret t_z z_t_sort z_t_items z_t_cell)) (F0 m 67 ls []) := by
  intro n
  induction n with
  | zero =>
    intro x4 t_cell  H locs ls hf
    cases hf
  | succ n ih =>
    intro x4 t_cell  H locs ls hf S hl
    have hf : b_X8_tape_67 x1 t_sort t_items (lp (fun k x => b_X8_tape_67 x1 t_sort t_items k x.1 x.2) n) x4 t_cell = some (r, z_t_sort, z_t_items, z_t_cell) := hf
    exact k_X8_tape_67 C t_isKept t_work t_kind t_letters t_at t_fault t_back t_waits t_miles t_loads t_bestRound t_bestPlace t_bestAdds t_regret t_z t_sort t_items t_cell x1 x4  (lp (fun k x => b_X8_tape_67 x1 t_sort t_items k x.1 x.2) n) (fun x4' t_cell'  h S hl => ih x4' t_cell'  h S hl) hf S hl
set_option maxRecDepth 100000 in
set_option maxHeartbeats 4000000 in
theorem k_X8_tape_63 (C : Cx p s m args meth c cX8_tape (some .int) 5 RX8 G A) (t_isKept : Int32) (t_work : Int32) (t_kind : Int32) (t_letters : Int32) (t_at : Int32) (t_fault : Int32) (t_back : Int32) (t_waits : Int32) (t_miles : Int32) (t_loads : Int32) (t_bestRound : Int32) (t_bestPlace : Int32) (t_bestAdds : Int32) (t_regret : Int32) (t_z : Int32) (t_sort : Nat → Int32) (t_items : Nat → Int32) (t_cell : Nat → Int64) (x1 : Int32) (y1 : Int32) (y2 : Int32) {H : Heap} {locs : List Loc} {ls : Array Slot} (hf : b_X8_tape_63 x1 y1 y2 t_sort t_items t_cell = some (r, z_t_sort, z_t_items, z_t_cell)) (S : St G A s.heap H locs (w_X8_tape G a_t a_t_s a_t_image a_t_mind a_t_aside a_t_text a_t_read a_t_comes a_t_begins a_t_latest a_t_move a_t_sort a_t_items a_t_cell a_t_carried t_isKept t_work t_kind t_letters t_at t_fault t_back t_waits t_miles t_loads t_bestRound t_bestPlace t_bestAdds t_regret t_z t_sort t_items t_cell)) (hl : lv_has ls 5 [(0, .ref a_t), (1, .int x1)]) : W p l e rm_X8_tape s m args below meth c H locs 0 0 (QI G below args s A r (w_X8_tape G a_t a_t_s a_t_image a_t_mind a_t_aside a_t_text a_t_read a_t_comes a_t_begins a_t_latest a_t_move a_t_sort a_t_items a_t_cell a_t_carried t_isKept t_work t_kind t_letters t_at t_fault t_back t_waits t_miles t_loads t_bestRound t_bestPlace t_bestAdds t_regret t_z z_t_sort z_t_items z_t_cell)) (F0 m 63 ls [.int y2, .int y1, .ref a_t_items]) := by
  unfold b_X8_tape_63 at hf
  have hx := C.1
  have hb := C.2.1
  have hown := C.2.2.2.2.1
  have hts := C.2.2.2.2.2.1
  have hN := C.2.2.2.2.2.2.2.2.2.2
  obtain ⟨hv1, hf⟩ := gI_e hf
  refine x_iast (pc := 63) (ws' := (w_X8_tape G a_t a_t_s a_t_image a_t_mind a_t_aside a_t_text a_t_read a_t_comes a_t_begins a_t_latest a_t_move a_t_sort a_t_items a_t_cell a_t_carried t_isKept t_work t_kind t_letters t_at t_fault t_back t_waits t_miles t_loads t_bestRound t_bestPlace t_bestAdds t_regret t_z t_sort (upd t_items y1.toNatClampNeg y2) t_cell)) C S 2 rfl hv1 rfl dX8_tape_63 (fun H locs S => ?_)
  refine lv_iconst (pc := 64) hx hb dX8_tape_64 ic_0 ?_
  refine lv_istore (pc := 65) (lv' := [(4, .int (0 : Int32)), (0, .ref a_t), (1, .int x1)]) hx hb dX8_tape_65 hl (by decide) rfl (fun ls hl => ?_)
  exact h_X8_tape_67 C (t_isKept) (t_work) (t_kind) (t_letters) (t_at) (t_fault) (t_back) (t_waits) (t_miles) (t_loads) (t_bestRound) (t_bestPlace) (t_bestAdds) (t_regret) (t_z) (t_sort) ((upd t_items y1.toNatClampNeg y2)) (x1) fu ((0 : Int32)) (t_cell) hf S (lv_sub hl [1, 2, 0] rfl)
set_option maxRecDepth 100000 in
set_option maxHeartbeats 4000000 in
theorem k_X8_tape_42 (C : Cx p s m args meth c cX8_tape (some .int) 5 RX8 G A) (t_isKept : Int32) (t_work : Int32) (t_kind : Int32) (t_letters : Int32) (t_at : Int32) (t_fault : Int32) (t_back : Int32) (t_waits : Int32) (t_miles : Int32) (t_loads : Int32) (t_bestRound : Int32) (t_bestPlace : Int32) (t_bestAdds : Int32) (t_regret : Int32) (t_z : Int32) (t_sort : Nat → Int32) (t_items : Nat → Int32) (t_cell : Nat → Int64) (x1 : Int32) (x2 : Int32) (x3 : Int32) {H : Heap} {locs : List Loc} {ls : Array Slot} (hf : b_X8_tape_42 x1 x2 x3 t_sort t_items t_cell = some (r, z_t_sort, z_t_items, z_t_cell)) (S : St G A s.heap H locs (w_X8_tape G a_t a_t_s a_t_image a_t_mind a_t_aside a_t_text a_t_read a_t_comes a_t_begins a_t_latest a_t_move a_t_sort a_t_items a_t_cell a_t_carried t_isKept t_work t_kind t_letters t_at t_fault t_back t_waits t_miles t_loads t_bestRound t_bestPlace t_bestAdds t_regret t_z t_sort t_items t_cell)) (hl : lv_has ls 5 [(0, .ref a_t), (1, .int x1), (2, .int x2), (3, .int x3)]) : W p l e rm_X8_tape s m args below meth c H locs 0 0 (QI G below args s A r (w_X8_tape G a_t a_t_s a_t_image a_t_mind a_t_aside a_t_text a_t_read a_t_comes a_t_begins a_t_latest a_t_move a_t_sort a_t_items a_t_cell a_t_carried t_isKept t_work t_kind t_letters t_at t_fault t_back t_waits t_miles t_loads t_bestRound t_bestPlace t_bestAdds t_regret t_z z_t_sort z_t_items z_t_cell)) (F0 m 42 ls []) := by
  unfold b_X8_tape_42 at hf
  have hx := C.1
  have hb := C.2.1
  have hown := C.2.2.2.2.1
  have hts := C.2.2.2.2.2.1
  have hN := C.2.2.2.2.2.2.2.2.2.2
  refine lv_aload_n (pc := 42) hx hb dX8_tape_42 rfl (lv_at hl 0 rfl) ?_
  refine x_get (pc := 43) (ci := 8) (T := TX8) (v := .ref a_t_sort) C S 0 rfl rfl inlX8 24 (by decide) rfl qf_8_42 rfl dX8_tape_43 ?_
  refine lv_iload_n (pc := 46) hx hb dX8_tape_46 rfl (lv_at hl 1 rfl) ?_
  refine lv_iload_n (pc := 47) hx hb dX8_tape_47 rfl (lv_at hl 2 rfl) ?_
  obtain ⟨hv1, hf⟩ := gI_e hf
  refine x_iast (pc := 48) (ws' := (w_X8_tape G a_t a_t_s a_t_image a_t_mind a_t_aside a_t_text a_t_read a_t_comes a_t_begins a_t_latest a_t_move a_t_sort a_t_items a_t_cell a_t_carried t_isKept t_work t_kind t_letters t_at t_fault t_back t_waits t_miles t_loads t_bestRound t_bestPlace t_bestAdds t_regret t_z (upd t_sort x1.toNatClampNeg x2) t_items t_cell)) C S 1 rfl hv1 rfl dX8_tape_48 (fun H locs S => ?_)
  refine lv_aload_n (pc := 49) hx hb dX8_tape_49 rfl (lv_at hl 0 rfl) ?_
  refine x_get (pc := 50) (ci := 8) (T := TX8) (v := .ref a_t_items) C S 0 rfl rfl inlX8 25 (by decide) rfl qf_8_45 rfl dX8_tape_50 ?_
  refine lv_iload_n (pc := 53) hx hb dX8_tape_53 rfl (lv_at hl 1 rfl) ?_
  refine lv_iload_n (pc := 54) hx hb dX8_tape_54 rfl (lv_at hl 2 rfl) ?_
  refine lv_if_ge (tgt := 62) (pc := 55) hx hb dX8_tape_55 (by decide) (fun c2 => ?_) (fun c2 => ?_)
  · have hf := ifp c2 hf
    refine lv_iload_n (pc := 62) hx hb dX8_tape_62 rfl (lv_at hl 3 rfl) ?_
    exact k_X8_tape_63 C (t_isKept) (t_work) (t_kind) (t_letters) (t_at) (t_fault) (t_back) (t_waits) (t_miles) (t_loads) (t_bestRound) (t_bestPlace) (t_bestAdds) (t_regret) (t_z) ((upd t_sort x1.toNatClampNeg x2)) (t_items) (t_cell) (x1) (x1) (x3) hf S (lv_sub hl [0, 1] rfl)
  · have hf := ifn c2 hf
    refine lv_iconst (pc := 58) hx hb dX8_tape_58 ic_0 ?_
    refine lv_goto (tgt := 63) (pc := 59) hx hb dX8_tape_59 (by decide) ?_
    exact k_X8_tape_63 C (t_isKept) (t_work) (t_kind) (t_letters) (t_at) (t_fault) (t_back) (t_waits) (t_miles) (t_loads) (t_bestRound) (t_bestPlace) (t_bestAdds) (t_regret) (t_z) ((upd t_sort x1.toNatClampNeg x2)) (t_items) (t_cell) (x1) (x1) ((0 : Int32)) hf S (lv_sub hl [0, 1] rfl)
set_option maxRecDepth 100000 in
set_option maxHeartbeats 4000000 in
theorem k_X8_tape_31 (C : Cx p s m args meth c cX8_tape (some .int) 5 RX8 G A) (t_isKept : Int32) (t_work : Int32) (t_kind : Int32) (t_letters : Int32) (t_at : Int32) (t_fault : Int32) (t_back : Int32) (t_waits : Int32) (t_miles : Int32) (t_loads : Int32) (t_bestRound : Int32) (t_bestPlace : Int32) (t_bestAdds : Int32) (t_regret : Int32) (t_z : Int32) (t_sort : Nat → Int32) (t_items : Nat → Int32) (t_cell : Nat → Int64) (x1 : Int32) (x2 : Int32) (x3 : Int32) {H : Heap} {locs : List Loc} {ls : Array Slot} (hf : b_X8_tape_31 x1 x2 x3 t_sort t_items t_cell = some (r, z_t_sort, z_t_items, z_t_cell)) (S : St G A s.heap H locs (w_X8_tape G a_t a_t_s a_t_image a_t_mind a_t_aside a_t_text a_t_read a_t_comes a_t_begins a_t_latest a_t_move a_t_sort a_t_items a_t_cell a_t_carried t_isKept t_work t_kind t_letters t_at t_fault t_back t_waits t_miles t_loads t_bestRound t_bestPlace t_bestAdds t_regret t_z t_sort t_items t_cell)) (hl : lv_has ls 5 [(0, .ref a_t), (1, .int x1), (2, .int x2), (3, .int x3)]) : W p l e rm_X8_tape s m args below meth c H locs 0 0 (QI G below args s A r (w_X8_tape G a_t a_t_s a_t_image a_t_mind a_t_aside a_t_text a_t_read a_t_comes a_t_begins a_t_latest a_t_move a_t_sort a_t_items a_t_cell a_t_carried t_isKept t_work t_kind t_letters t_at t_fault t_back t_waits t_miles t_loads t_bestRound t_bestPlace t_bestAdds t_regret t_z z_t_sort z_t_items z_t_cell)) (F0 m 31 ls []) := by
  unfold b_X8_tape_31 at hf
  have hx := C.1
  have hb := C.2.1
  have hown := C.2.2.2.2.1
  have hts := C.2.2.2.2.2.1
  have hN := C.2.2.2.2.2.2.2.2.2.2
  refine lv_iload_n (pc := 31) hx hb dX8_tape_31 rfl (lv_at hl 2 rfl) ?_
  refine lv_if_lt (tgt := 42) (pc := 32) hx hb dX8_tape_32 (by decide) (fun c1 => ?_) (fun c1 => ?_)
  · have hf := ifp c1 hf
    exact k_X8_tape_42 C (t_isKept) (t_work) (t_kind) (t_letters) (t_at) (t_fault) (t_back) (t_waits) (t_miles) (t_loads) (t_bestRound) (t_bestPlace) (t_bestAdds) (t_regret) (t_z) (t_sort) (t_items) (t_cell) (x1) (x2) (x3) hf S (lv_sub hl [0, 1, 2, 3] rfl)
  · have hf := ifn c1 hf
    refine lv_iload_n (pc := 35) hx hb dX8_tape_35 rfl (lv_at hl 3 rfl) ?_
    refine lv_if_ge (tgt := 42) (pc := 36) hx hb dX8_tape_36 (by decide) (fun c2 => ?_) (fun c2 => ?_)
    · have hf := ifp c2 hf
      exact k_X8_tape_42 C (t_isKept) (t_work) (t_kind) (t_letters) (t_at) (t_fault) (t_back) (t_waits) (t_miles) (t_loads) (t_bestRound) (t_bestPlace) (t_bestAdds) (t_regret) (t_z) (t_sort) (t_items) (t_cell) (x1) (x2) (x3) hf S (lv_sub hl [0, 1, 2, 3] rfl)
    · have hf := ifn c2 hf
      refine lv_bipush (pc := 39) hx hb dX8_tape_39 bc_m14 ?_
      cases hf
      exact x_iret (pc := 41) C S dX8_tape_41
set_option maxRecDepth 100000 in
set_option maxHeartbeats 4000000 in
theorem c_X8_tape (l : Launch) (G : GE) (a_t a_t_s a_t_image a_t_mind a_t_aside a_t_text a_t_read a_t_comes a_t_begins a_t_latest a_t_move a_t_sort a_t_items a_t_cell a_t_carried : Nat) (t_isKept : Int32) (t_work : Int32) (t_kind : Int32) (t_letters : Int32) (t_at : Int32) (t_fault : Int32) (t_back : Int32) (t_waits : Int32) (t_miles : Int32) (t_loads : Int32) (t_bestRound : Int32) (t_bestPlace : Int32) (t_bestAdds : Int32) (t_regret : Int32) (t_z : Int32) (t_sort : Nat → Int32) (t_items : Nat → Int32) (t_cell : Nat → Int64) (x1 : Int32) (x2 : Int32) (x3 : Int32) (r : Int32) (z_t_sort : Nat → Int32) (z_t_items : Nat → Int32) (z_t_cell : Nat → Int64) (hf : f_X8_tape t_sort t_items t_cell x1 x2 x3 = some (r, z_t_sort, z_t_items, z_t_cell)) : CI l G yX8_tape kw_X8_tape rm_X8_tape [.ref a_t, .int x1, .int x2, .int x3] (w_X8_tape G a_t a_t_s a_t_image a_t_mind a_t_aside a_t_text a_t_read a_t_comes a_t_begins a_t_latest a_t_move a_t_sort a_t_items a_t_cell a_t_carried t_isKept t_work t_kind t_letters t_at t_fault t_back t_waits t_miles t_loads t_bestRound t_bestPlace t_bestAdds t_regret t_z t_sort t_items t_cell) r (w_X8_tape G a_t a_t_s a_t_image a_t_mind a_t_aside a_t_text a_t_read a_t_comes a_t_begins a_t_latest a_t_move a_t_sort a_t_items a_t_cell a_t_carried t_isKept t_work t_kind t_letters t_at t_fault t_back t_waits t_miles t_loads t_bestRound t_bestPlace t_bestAdds t_regret t_z z_t_sort z_t_items z_t_cell) := by
  refine en_I (cc := cX8_tape) (maxL := 5) (ret := (some .int)) (by decide +kernel) (Nat.le_of_ble_eq_true rfl) ?_
  intro p e s m args below meth c A ls C S hl
  have hl : lv_has ls 5 [(0, .ref a_t), (1, .int x1), (2, .int x2), (3, .int x3)] := hl
  have C : Cx p s m args meth c cX8_tape (some .int) 5 RX8 G A := C
  unfold f_X8_tape at hf
  have hx := C.1
  have hb := C.2.1
  have hown := C.2.2.2.2.1
  have hts := C.2.2.2.2.2.1
  have hN := C.2.2.2.2.2.2.2.2.2.2
  refine lv_iload_n (pc := 0) hx hb dX8_tape_0 rfl (lv_at hl 1 rfl) ?_
  obtain ⟨r1, hq1, hf⟩ := bd_e hf
  refine x_sI (pc := 1) (As := [.int x1]) (rest := []) (isC := []) (ws' := (w_X8_tape G a_t a_t_s a_t_image a_t_mind a_t_aside a_t_text a_t_read a_t_comes a_t_begins a_t_latest a_t_move a_t_sort a_t_items a_t_cell a_t_carried t_isKept t_work t_kind t_letters t_at t_fault t_back t_waits t_miles t_loads t_bestRound t_bestPlace t_bestAdds t_regret t_z t_sort t_items t_cell)) C S (c_X8_isTape l G x1 r1 hq1) (u_X8_tape_X8_isTape_285 hts) rfl (by decide +kernel) [none, none, none, none] (by decide +kernel) rfl rfl rfl hl.1 rfl (Nat.le_of_ble_eq_true rfl) dX8_tape_1 (fun H locs S => ?_)
  refine lv_if_ne (tgt := 9) (pc := 4) hx hb dX8_tape_4 (by decide) (fun c2 => ?_) (fun c2 => ?_)
  · have hf := ifn c2 hf
    refine lv_iload_n (pc := 9) hx hb dX8_tape_9 rfl (lv_at hl 2 rfl) ?_
    refine lv_iconst (pc := 10) hx hb dX8_tape_10 ic_m1 ?_
    refine lv_iconst (pc := 11) hx hb dX8_tape_11 ic_4 ?_
    obtain ⟨r3, hq3, hf⟩ := bd_e hf
    refine x_sI (pc := 12) (As := [.int x2, .int (-1 : Int32), .int (4 : Int32)]) (rest := []) (isC := []) (ws' := (w_X8_tape G a_t a_t_s a_t_image a_t_mind a_t_aside a_t_text a_t_read a_t_comes a_t_begins a_t_latest a_t_move a_t_sort a_t_items a_t_cell a_t_carried t_isKept t_work t_kind t_letters t_at t_fault t_back t_waits t_miles t_loads t_bestRound t_bestPlace t_bestAdds t_regret t_z t_sort t_items t_cell)) C S (c_X8_isIn l G x2 (-1 : Int32) (4 : Int32) r3 hq3) (u_X8_tape_X8_isIn_55 hts) rfl (by decide +kernel) [none, none, none, none] (by decide +kernel) rfl rfl rfl hl.1 rfl (Nat.le_of_ble_eq_true rfl) dX8_tape_12 (fun H locs S => ?_)
    refine lv_if_eq (tgt := 28) (pc := 15) hx hb dX8_tape_15 (by decide) (fun c4 => ?_) (fun c4 => ?_)
    · have hf := ifp c4 hf
      refine lv_bipush (pc := 28) hx hb dX8_tape_28 bc_m2 ?_
      cases hf
      exact x_iret (pc := 30) C S dX8_tape_30
    · have hf := ifn c4 hf
      refine lv_iload_n (pc := 18) hx hb dX8_tape_18 rfl (lv_at hl 2 rfl) ?_
      refine lv_if_lt (tgt := 31) (pc := 19) hx hb dX8_tape_19 (by decide) (fun c5 => ?_) (fun c5 => ?_)
      · have hf := ifp c5 hf
        exact k_X8_tape_31 C (t_isKept) (t_work) (t_kind) (t_letters) (t_at) (t_fault) (t_back) (t_waits) (t_miles) (t_loads) (t_bestRound) (t_bestPlace) (t_bestAdds) (t_regret) (t_z) (t_sort) (t_items) (t_cell) (x1) (x2) (x3) hf S (lv_sub hl [0, 1, 2, 3] rfl)
      · have hf := ifn c5 hf
        refine lv_iload_n (pc := 22) hx hb dX8_tape_22 rfl (lv_at hl 3 rfl) ?_
        refine lv_bipush (pc := 23) hx hb dX8_tape_23 bc_60 ?_
        refine lv_icmp_le (tgt := 31) (pc := 25) hx hb dX8_tape_25 (by decide) (fun c6 => ?_) (fun c6 => ?_)
        · have hf := ifp c6 hf
          exact k_X8_tape_31 C (t_isKept) (t_work) (t_kind) (t_letters) (t_at) (t_fault) (t_back) (t_waits) (t_miles) (t_loads) (t_bestRound) (t_bestPlace) (t_bestAdds) (t_regret) (t_z) (t_sort) (t_items) (t_cell) (x1) (x2) (x3) hf S (lv_sub hl [0, 1, 2, 3] rfl)
        · have hf := ifn c6 hf
          refine lv_bipush (pc := 28) hx hb dX8_tape_28 bc_m2 ?_
          cases hf
          exact x_iret (pc := 30) C S dX8_tape_30
  · have hf := ifp c2 hf
    refine lv_iconst (pc := 7) hx hb dX8_tape_7 ic_m1 ?_
    cases hf
    exact x_iret (pc := 8) C S dX8_tape_8
end

abbrev rm_X8_told : Room := { frames := 5, cells := 0, slots := 0, locals := 121 }
abbrev kw_X8_told : Cond := .code yX8_told cX8_told 4 (some .int)
abbrev w_X8_told (G : GE) (a_t a_t_s a_t_image a_t_mind a_t_aside a_t_text a_t_read a_t_comes a_t_begins a_t_latest a_t_move a_t_sort a_t_items a_t_cell a_t_carried : Nat) (t_isKept : Int32) (t_work : Int32) (t_kind : Int32) (t_letters : Int32) (t_at : Int32) (t_fault : Int32) (t_back : Int32) (t_waits : Int32) (t_miles : Int32) (t_loads : Int32) (t_bestRound : Int32) (t_bestPlace : Int32) (t_bestAdds : Int32) (t_regret : Int32) (t_z : Int32) (t_s : Nat → Int32) (t_comes : Nat → Int32) (t_begins : Nat → Int32) : va_W := [(a_t, ob 8 [.ref a_t_s, .ref a_t_image, .ref a_t_mind, .ref a_t_aside, .int t_isKept, .int t_work, .int t_kind, .ref a_t_text, .ref a_t_read, .int t_letters, .int t_at, .int t_fault, .ref a_t_comes, .ref a_t_begins, .ref a_t_latest, .int t_back, .int t_waits, .int t_miles, .int t_loads, .int t_bestRound, .int t_bestPlace, .int t_bestAdds, .int t_regret, .ref a_t_move, .ref a_t_sort, .ref a_t_items, .ref a_t_cell, .ref a_t_carried, .int t_z]), (a_t_s, aI G 258 t_s), (a_t_comes, aI G 16 t_comes), (a_t_begins, aI G 16 t_begins)]
theorem u_X8_told_X8_cost_177 {s : State} {args : Array Value} (hts : ∀ w ∈ WU, w.before args s = true) : CallW rm_X8_told s args RX8 RX8 177 yX8_cost cX8_cost 3 (some .int) (kw_X8_cost :: WU) rm_X8_cost 0 0 0 := cwV 0 hts (gV qm_8_177 qi_X8_cost ql_X8_cost qn_8 qc_X8_cost) rfl rfl rfl (by decide +kernel) ⟨Nat.le_of_ble_eq_true rfl, Nat.le_of_ble_eq_true rfl⟩
theorem u_X8_told_X8_inNone_242 {s : State} {args : Array Value} (hts : ∀ w ∈ WU, w.before args s = true) : CallW rm_X8_told s args RX8 RX8 242 yX8_inNone cX8_inNone 3 (some .int) (kw_X8_inNone :: WU) rm_X8_inNone 0 0 0 := cwV 0 hts (gV qm_8_242 qi_X8_inNone ql_X8_inNone qn_8 qc_X8_inNone) rfl rfl rfl (by decide +kernel) ⟨Nat.le_of_ble_eq_true rfl, Nat.le_of_ble_eq_true rfl⟩
theorem u_X8_told_X8_allWaits_245 {s : State} {args : Array Value} (hts : ∀ w ∈ WU, w.before args s = true) : CallW rm_X8_told s args RX8 RX8 245 yX8_allWaits cX8_allWaits 3 (some .int) (kw_X8_allWaits :: WU) rm_X8_allWaits 0 0 0 := cwV 0 hts (gV qm_8_245 qi_X8_allWaits ql_X8_allWaits qn_8 qc_X8_allWaits) rfl rfl rfl (by decide +kernel) ⟨Nat.le_of_ble_eq_true rfl, Nat.le_of_ble_eq_true rfl⟩
theorem u_X8_told_X8_milesOf_111 {s : State} {args : Array Value} (hts : ∀ w ∈ WU, w.before args s = true) : CallW rm_X8_told s args RX8 RX8 111 yX8_milesOf cX8_milesOf 5 (some .int) (kw_X8_milesOf :: WU) rm_X8_milesOf 0 0 1 := cwV 1 hts (gV qm_8_111 qi_X8_milesOf ql_X8_milesOf qn_8 qc_X8_milesOf) rfl rfl rfl (by decide +kernel) ⟨Nat.le_of_ble_eq_true rfl, Nat.le_of_ble_eq_true rfl⟩
theorem u_X8_told_X8_stopAt_78 {s : State} {args : Array Value} (hts : ∀ w ∈ WU, w.before args s = true) : CallW rm_X8_told s args RX8 RX8 78 yX8_stopAt cX8_stopAt 3 (some .int) (kw_X8_stopAt :: WU) rm_X8_stopAt 0 0 2 := cwV 2 hts (gV qm_8_78 qi_X8_stopAt ql_X8_stopAt qn_8 qc_X8_stopAt) rfl rfl rfl (by decide +kernel) ⟨Nat.le_of_ble_eq_true rfl, Nat.le_of_ble_eq_true rfl⟩
theorem u_X8_told_X8_roundAt_59 {s : State} {args : Array Value} (hts : ∀ w ∈ WU, w.before args s = true) : CallW rm_X8_told s args RX8 RX8 59 yX8_roundAt cX8_roundAt 3 (some .int) (kw_X8_roundAt :: WU) rm_X8_roundAt 0 0 2 := cwV 2 hts (gV qm_8_59 qi_X8_roundAt ql_X8_roundAt qn_8 qc_X8_roundAt) rfl rfl rfl (by decide +kernel) ⟨Nat.le_of_ble_eq_true rfl, Nat.le_of_ble_eq_true rfl⟩
section
variable {p : Program} {l : Launch} {e : Env} {s : State} {m : MethodId} {args : Array Value} {below : List Frame} {meth : Method} {c : Code} {A : Nat → Prop} {G : GE} {a_t a_t_s a_t_image a_t_mind a_t_aside a_t_text a_t_read a_t_comes a_t_begins a_t_latest a_t_move a_t_sort a_t_items a_t_cell a_t_carried : Nat} {r : Int32} {z_t_comes : Nat → Int32} {z_t_begins : Nat → Int32} {z_t_back : Int32} {z_t_waits : Int32} {z_t_loads : Int32}
set_option maxRecDepth 100000 in
set_option maxHeartbeats 4000000 in
theorem k_X8_told_47 (C : Cx p s m args meth c cX8_told (some .int) 4 RX8 G A) (t_isKept : Int32) (t_work : Int32) (t_kind : Int32) (t_letters : Int32) (t_at : Int32) (t_fault : Int32) (t_back : Int32) (t_waits : Int32) (t_miles : Int32) (t_loads : Int32) (t_bestRound : Int32) (t_bestPlace : Int32) (t_bestAdds : Int32) (t_regret : Int32) (t_z : Int32) (t_s : Nat → Int32) (t_comes : Nat → Int32) (t_begins : Nat → Int32) (x2 : Int32) (x3 : Int32) (k47 : Int32 × Int32 → Option (Int32 × (Nat → Int32) × (Nat → Int32) × Int32 × Int32 × Int32)) (hk47 : ∀ {H : Heap} {locs : List Loc} {ls : Array Slot} (x2' : Int32) (x3' : Int32), k47 (x2', x3') = some (r, z_t_comes, z_t_begins, z_t_back, z_t_waits, z_t_loads) → St G A s.heap H locs (w_X8_told G a_t a_t_s a_t_image a_t_mind a_t_aside a_t_text a_t_read a_t_comes a_t_begins a_t_latest a_t_move a_t_sort a_t_items a_t_cell a_t_carried t_isKept t_work t_kind t_letters t_at t_fault t_back t_waits t_miles t_loads t_bestRound t_bestPlace t_bestAdds t_regret t_z t_s t_comes t_begins) → lv_has ls 4 [(0, .ref a_t), (2, .int x2'), (3, .int x3')] → W p l e rm_X8_told s m args below meth c H locs 0 0 (QI G below args s A r (w_X8_told G a_t a_t_s a_t_image a_t_mind a_t_aside a_t_text a_t_read a_t_comes a_t_begins a_t_latest a_t_move a_t_sort a_t_items a_t_cell a_t_carried t_isKept t_work t_kind t_letters t_at t_fault z_t_back z_t_waits t_miles z_t_loads t_bestRound t_bestPlace t_bestAdds t_regret t_z t_s z_t_comes z_t_begins)) (F0 m 47 ls [])) {H : Heap} {locs : List Loc} {ls : Array Slot} (hf : b_X8_told_47 t_s t_comes t_begins t_back t_waits t_loads k47 x2 x3 = some (r, z_t_comes, z_t_begins, z_t_back, z_t_waits, z_t_loads)) (S : St G A s.heap H locs (w_X8_told G a_t a_t_s a_t_image a_t_mind a_t_aside a_t_text a_t_read a_t_comes a_t_begins a_t_latest a_t_move a_t_sort a_t_items a_t_cell a_t_carried t_isKept t_work t_kind t_letters t_at t_fault t_back t_waits t_miles t_loads t_bestRound t_bestPlace t_bestAdds t_regret t_z t_s t_comes t_begins)) (hl : lv_has ls 4 [(0, .ref a_t), (2, .int x2), (3, .int x3)]) : W p l e rm_X8_told s m args below meth c H locs 0 0 (QI G below args s A r (w_X8_told G a_t a_t_s a_t_image a_t_mind a_t_aside a_t_text a_t_read a_t_comes a_t_begins a_t_latest a_t_move a_t_sort a_t_items a_t_cell a_t_carried t_isKept t_work t_kind t_letters t_at t_fault z_t_back z_t_waits t_miles z_t_loads t_bestRound t_bestPlace t_bestAdds t_regret t_z t_s z_t_comes z_t_begins)) (F0 m 47 ls []) := by
  unfold b_X8_told_47 at hf
  have hx := C.1
  have hb := C.2.1
  have hown := C.2.2.2.2.1
  have hts := C.2.2.2.2.2.1
  have hN := C.2.2.2.2.2.2.2.2.2.2
  refine lv_iload_n (pc := 47) hx hb dX8_told_47 rfl (lv_at hl 2 rfl) ?_
  refine lv_iconst (pc := 48) hx hb dX8_told_48 ic_4 ?_
  refine lv_icmp_ge (tgt := 66) (pc := 49) hx hb dX8_told_49 (by decide) (fun c1 => ?_) (fun c1 => ?_)
  · have hf := ifp c1 hf
    refine lv_iload_n (pc := 66) hx hb dX8_told_66 rfl (lv_at hl 1 rfl) ?_
    cases hf
    exact x_iret (pc := 67) C S dX8_told_67
  · have hf := ifn c1 hf
    refine lv_iload_n (pc := 52) hx hb dX8_told_52 rfl (lv_at hl 1 rfl) ?_
    refine lv_aload_n (pc := 53) hx hb dX8_told_53 rfl (lv_at hl 0 rfl) ?_
    refine lv_iload_n (pc := 54) hx hb dX8_told_54 rfl (lv_at hl 2 rfl) ?_
    obtain ⟨r2, hq2, hf⟩ := bd_e hf
    refine x_vI (pc := 55) (As := [.int x3]) (rest := [.int x2]) (isC := [0, 1]) (ws' := (w_X8_told G a_t a_t_s a_t_image a_t_mind a_t_aside a_t_text a_t_read a_t_comes a_t_begins a_t_latest a_t_move a_t_sort a_t_items a_t_cell a_t_carried t_isKept t_work t_kind t_letters t_at t_fault t_back t_waits t_miles t_loads t_bestRound t_bestPlace t_bestAdds t_regret t_z t_s t_comes t_begins)) C S (c_X8_milesOf l G a_t a_t_s a_t_image a_t_mind a_t_aside a_t_text a_t_read a_t_comes a_t_begins a_t_latest a_t_move a_t_sort a_t_items a_t_cell a_t_carried t_isKept t_work t_kind t_letters t_at t_fault t_back t_waits t_miles t_loads t_bestRound t_bestPlace t_bestAdds t_regret t_z t_s x3 r2 hq2) (u_X8_told_X8_milesOf_111 hts) (ci := 8) rfl 0 rfl rfl (by decide +kernel) [some 0, some 1, none, none] (by decide +kernel) rfl rfl rfl hl.1 rfl (Nat.le_of_ble_eq_true rfl) dX8_told_55 (fun H locs S => ?_)
    refine lv_iadd (pc := 58) hx hb dX8_told_58 ?_
    refine lv_istore_n (pc := 59) (lv' := [(2, .int (x2 + r2)), (0, .ref a_t), (3, .int x3)]) hx hb dX8_told_59 rfl hl (by decide) rfl (fun ls hl => ?_)
    refine lv_iinc (pc := 60) (v := (x3 + (1 : Int32))) (lv' := [(3, .int (x3 + (1 : Int32))), (2, .int (x2 + r2)), (0, .ref a_t)]) hx hb dX8_told_60 hl (k := 2) rfl (congrArg (fun z => x3 + z) ic_1) (by decide) rfl (fun ls hl => ?_)
    refine lv_goto (tgt := 47) (pc := 63) hx hb dX8_told_63 (by decide) ?_
    exact hk47 ((x2 + r2)) ((x3 + (1 : Int32)))  hf S (lv_sub hl [2, 1, 0] rfl)
set_option maxRecDepth 100000 in
set_option maxHeartbeats 4000000 in
theorem h_X8_told_47 (C : Cx p s m args meth c cX8_told (some .int) 4 RX8 G A) (t_isKept : Int32) (t_work : Int32) (t_kind : Int32) (t_letters : Int32) (t_at : Int32) (t_fault : Int32) (t_back : Int32) (t_waits : Int32) (t_miles : Int32) (t_loads : Int32) (t_bestRound : Int32) (t_bestPlace : Int32) (t_bestAdds : Int32) (t_regret : Int32) (t_z : Int32) (t_s : Nat → Int32) (t_comes : Nat → Int32) (t_begins : Nat → Int32) : ∀ (n : Nat) (x2 : Int32) (x3 : Int32) {H : Heap} {locs : List Loc} {ls : Array Slot} (hf : lp (fun k x => b_X8_told_47 t_s t_comes t_begins t_back t_waits t_loads k x.1 x.2) n (x2, x3) = some (r, z_t_comes, z_t_begins, z_t_back, z_t_waits, z_t_loads)) (S : St G A s.heap H locs (w_X8_told G a_t a_t_s a_t_image a_t_mind a_t_aside a_t_text a_t_read a_t_comes a_t_begins a_t_latest a_t_move a_t_sort a_t_items a_t_cell a_t_carried t_isKept t_work t_kind t_letters t_at t_fault t_back t_waits t_miles t_loads t_bestRound t_bestPlace t_bestAdds t_regret t_z t_s t_comes t_begins)) (hl : lv_has ls 4 [(0, .ref a_t), (2, .int x2), (3, .int x3)]), W p l e rm_X8_told s m args below meth c H locs 0 0 (QI G below args s A r (w_X8_told G a_t a_t_s a_t_image a_t_mind a_t_aside a_t_text a_t_read a_t_comes a_t_begins a_t_latest a_t_move a_t_sort a_t_items a_t_cell a_t_carried t_isKept t_work t_kind t_letters t_at t_fault z_t_back z_t_waits t_miles z_t_loads t_bestRound t_bestPlace t_bestAdds t_regret t_z t_s z_t_comes z_t_begins)) (F0 m 47 ls []) := by
  intro n
  induction n with
  | zero =>
    intro x2 x3  H locs ls hf
    cases hf
  | succ n ih =>
    intro x2 x3  H locs ls hf S hl
    have hf : b_X8_told_47 t_s t_comes t_begins t_back t_waits t_loads (lp (fun k x => b_X8_told_47 t_s t_comes t_begins t_back t_waits t_loads k x.1 x.2) n) x2 x3 = some (r, z_t_comes, z_t_begins, z_t_back, z_t_waits, z_t_loads) := hf
    exact k_X8_told_47 C t_isKept t_work t_kind t_letters t_at t_fault t_back t_waits t_miles t_loads t_bestRound t_bestPlace t_bestAdds t_regret t_z t_s t_comes t_begins x2 x3  (lp (fun k x => b_X8_told_47 t_s t_comes t_begins t_back t_waits t_loads k x.1 x.2) n) (fun x2' x3'  h S hl => ih x2' x3'  h S hl) hf S hl
set_option maxRecDepth 100000 in
set_option maxHeartbeats 4000000 in
theorem k_X8_told_75 (C : Cx p s m args meth c cX8_told (some .int) 4 RX8 G A) (t_isKept : Int32) (t_work : Int32) (t_kind : Int32) (t_letters : Int32) (t_at : Int32) (t_fault : Int32) (t_back : Int32) (t_waits : Int32) (t_miles : Int32) (t_loads : Int32) (t_bestRound : Int32) (t_bestPlace : Int32) (t_bestAdds : Int32) (t_regret : Int32) (t_z : Int32) (t_s : Nat → Int32) (t_comes : Nat → Int32) (t_begins : Nat → Int32) (x2 : Int32) (x3 : Int32) (k75 : Int32 × Int32 → Option (Int32 × (Nat → Int32) × (Nat → Int32) × Int32 × Int32 × Int32)) (hk75 : ∀ {H : Heap} {locs : List Loc} {ls : Array Slot} (x2' : Int32) (x3' : Int32), k75 (x2', x3') = some (r, z_t_comes, z_t_begins, z_t_back, z_t_waits, z_t_loads) → St G A s.heap H locs (w_X8_told G a_t a_t_s a_t_image a_t_mind a_t_aside a_t_text a_t_read a_t_comes a_t_begins a_t_latest a_t_move a_t_sort a_t_items a_t_cell a_t_carried t_isKept t_work t_kind t_letters t_at t_fault t_back t_waits t_miles t_loads t_bestRound t_bestPlace t_bestAdds t_regret t_z t_s t_comes t_begins) → lv_has ls 4 [(0, .ref a_t), (2, .int x2'), (3, .int x3')] → W p l e rm_X8_told s m args below meth c H locs 0 0 (QI G below args s A r (w_X8_told G a_t a_t_s a_t_image a_t_mind a_t_aside a_t_text a_t_read a_t_comes a_t_begins a_t_latest a_t_move a_t_sort a_t_items a_t_cell a_t_carried t_isKept t_work t_kind t_letters t_at t_fault z_t_back z_t_waits t_miles z_t_loads t_bestRound t_bestPlace t_bestAdds t_regret t_z t_s z_t_comes z_t_begins)) (F0 m 75 ls [])) {H : Heap} {locs : List Loc} {ls : Array Slot} (hf : b_X8_told_75 t_s t_comes t_begins t_back t_waits t_loads k75 x2 x3 = some (r, z_t_comes, z_t_begins, z_t_back, z_t_waits, z_t_loads)) (S : St G A s.heap H locs (w_X8_told G a_t a_t_s a_t_image a_t_mind a_t_aside a_t_text a_t_read a_t_comes a_t_begins a_t_latest a_t_move a_t_sort a_t_items a_t_cell a_t_carried t_isKept t_work t_kind t_letters t_at t_fault t_back t_waits t_miles t_loads t_bestRound t_bestPlace t_bestAdds t_regret t_z t_s t_comes t_begins)) (hl : lv_has ls 4 [(0, .ref a_t), (2, .int x2), (3, .int x3)]) : W p l e rm_X8_told s m args below meth c H locs 0 0 (QI G below args s A r (w_X8_told G a_t a_t_s a_t_image a_t_mind a_t_aside a_t_text a_t_read a_t_comes a_t_begins a_t_latest a_t_move a_t_sort a_t_items a_t_cell a_t_carried t_isKept t_work t_kind t_letters t_at t_fault z_t_back z_t_waits t_miles z_t_loads t_bestRound t_bestPlace t_bestAdds t_regret t_z t_s z_t_comes z_t_begins)) (F0 m 75 ls []) := by
  unfold b_X8_told_75 at hf
  have hx := C.1
  have hb := C.2.1
  have hown := C.2.2.2.2.1
  have hts := C.2.2.2.2.2.1
  have hN := C.2.2.2.2.2.2.2.2.2.2
  refine lv_iload_n (pc := 75) hx hb dX8_told_75 rfl (lv_at hl 2 rfl) ?_
  refine lv_aload_n (pc := 76) hx hb dX8_told_76 rfl (lv_at hl 0 rfl) ?_
  refine x_get (pc := 77) (ci := 8) (T := TX8) (v := .ref a_t_s) C S 0 rfl rfl inlX8 0 (by decide) rfl qf_8_11 rfl dX8_told_77 ?_
  refine lv_iconst (pc := 80) hx hb dX8_told_80 ic_4 ?_
  refine x_iald (pc := 81) C S 1 rfl (vp_in_iff.mpr (by decide)) dX8_told_81 ?_
  refine lv_icmp_ge (tgt := 101) (pc := 82) hx hb dX8_told_82 (by decide) (fun c1 => ?_) (fun c1 => ?_)
  · have hf := ifp c1 hf
    refine lv_iload_n (pc := 101) hx hb dX8_told_101 rfl (lv_at hl 1 rfl) ?_
    cases hf
    exact x_iret (pc := 102) C S dX8_told_102
  · have hf := ifn c1 hf
    refine lv_iload_n (pc := 85) hx hb dX8_told_85 rfl (lv_at hl 1 rfl) ?_
    refine lv_aload_n (pc := 86) hx hb dX8_told_86 rfl (lv_at hl 0 rfl) ?_
    refine lv_iload_n (pc := 87) hx hb dX8_told_87 rfl (lv_at hl 2 rfl) ?_
    refine lv_bipush (pc := 88) hx hb dX8_told_88 bc_6 ?_
    obtain ⟨r2, hq2, hf⟩ := bd_e hf
    refine x_vI (pc := 90) (As := [.int x3, .int (6 : Int32)]) (rest := [.int x2]) (isC := [0, 1]) (ws' := (w_X8_told G a_t a_t_s a_t_image a_t_mind a_t_aside a_t_text a_t_read a_t_comes a_t_begins a_t_latest a_t_move a_t_sort a_t_items a_t_cell a_t_carried t_isKept t_work t_kind t_letters t_at t_fault t_back t_waits t_miles t_loads t_bestRound t_bestPlace t_bestAdds t_regret t_z t_s t_comes t_begins)) C S (c_X8_stopAt l G a_t a_t_s a_t_image a_t_mind a_t_aside a_t_text a_t_read a_t_comes a_t_begins a_t_latest a_t_move a_t_sort a_t_items a_t_cell a_t_carried t_isKept t_work t_kind t_letters t_at t_fault t_back t_waits t_miles t_loads t_bestRound t_bestPlace t_bestAdds t_regret t_z t_s x3 (6 : Int32) r2 hq2) (u_X8_told_X8_stopAt_78 hts) (ci := 8) rfl 0 rfl rfl (by decide +kernel) [some 0, some 1, none, none] (by decide +kernel) rfl rfl rfl hl.1 rfl (Nat.le_of_ble_eq_true rfl) dX8_told_90 (fun H locs S => ?_)
    refine lv_iadd (pc := 93) hx hb dX8_told_93 ?_
    refine lv_istore_n (pc := 94) (lv' := [(2, .int (x2 + r2)), (0, .ref a_t), (3, .int x3)]) hx hb dX8_told_94 rfl hl (by decide) rfl (fun ls hl => ?_)
    refine lv_iinc (pc := 95) (v := (x3 + (1 : Int32))) (lv' := [(3, .int (x3 + (1 : Int32))), (2, .int (x2 + r2)), (0, .ref a_t)]) hx hb dX8_told_95 hl (k := 2) rfl (congrArg (fun z => x3 + z) ic_1) (by decide) rfl (fun ls hl => ?_)
    refine lv_goto (tgt := 75) (pc := 98) hx hb dX8_told_98 (by decide) ?_
    exact hk75 ((x2 + r2)) ((x3 + (1 : Int32)))  hf S (lv_sub hl [2, 1, 0] rfl)
set_option maxRecDepth 100000 in
set_option maxHeartbeats 4000000 in
theorem h_X8_told_75 (C : Cx p s m args meth c cX8_told (some .int) 4 RX8 G A) (t_isKept : Int32) (t_work : Int32) (t_kind : Int32) (t_letters : Int32) (t_at : Int32) (t_fault : Int32) (t_back : Int32) (t_waits : Int32) (t_miles : Int32) (t_loads : Int32) (t_bestRound : Int32) (t_bestPlace : Int32) (t_bestAdds : Int32) (t_regret : Int32) (t_z : Int32) (t_s : Nat → Int32) (t_comes : Nat → Int32) (t_begins : Nat → Int32) : ∀ (n : Nat) (x2 : Int32) (x3 : Int32) {H : Heap} {locs : List Loc} {ls : Array Slot} (hf : lp (fun k x => b_X8_told_75 t_s t_comes t_begins t_back t_waits t_loads k x.1 x.2) n (x2, x3) = some (r, z_t_comes, z_t_begins, z_t_back, z_t_waits, z_t_loads)) (S : St G A s.heap H locs (w_X8_told G a_t a_t_s a_t_image a_t_mind a_t_aside a_t_text a_t_read a_t_comes a_t_begins a_t_latest a_t_move a_t_sort a_t_items a_t_cell a_t_carried t_isKept t_work t_kind t_letters t_at t_fault t_back t_waits t_miles t_loads t_bestRound t_bestPlace t_bestAdds t_regret t_z t_s t_comes t_begins)) (hl : lv_has ls 4 [(0, .ref a_t), (2, .int x2), (3, .int x3)]), W p l e rm_X8_told s m args below meth c H locs 0 0 (QI G below args s A r (w_X8_told G a_t a_t_s a_t_image a_t_mind a_t_aside a_t_text a_t_read a_t_comes a_t_begins a_t_latest a_t_move a_t_sort a_t_items a_t_cell a_t_carried t_isKept t_work t_kind t_letters t_at t_fault z_t_back z_t_waits t_miles z_t_loads t_bestRound t_bestPlace t_bestAdds t_regret t_z t_s z_t_comes z_t_begins)) (F0 m 75 ls []) := by
  intro n
  induction n with
  | zero =>
    intro x2 x3  H locs ls hf
    cases hf
  | succ n ih =>
    intro x2 x3  H locs ls hf S hl
    have hf : b_X8_told_75 t_s t_comes t_begins t_back t_waits t_loads (lp (fun k x => b_X8_told_75 t_s t_comes t_begins t_back t_waits t_loads k x.1 x.2) n) x2 x3 = some (r, z_t_comes, z_t_begins, z_t_back, z_t_waits, z_t_loads) := hf
    exact k_X8_told_75 C t_isKept t_work t_kind t_letters t_at t_fault t_back t_waits t_miles t_loads t_bestRound t_bestPlace t_bestAdds t_regret t_z t_s t_comes t_begins x2 x3  (lp (fun k x => b_X8_told_75 t_s t_comes t_begins t_back t_waits t_loads k x.1 x.2) n) (fun x2' x3'  h S hl => ih x2' x3'  h S hl) hf S hl
set_option maxRecDepth 100000 in
set_option maxHeartbeats 4000000 in
theorem k_X8_told_105 (C : Cx p s m args meth c cX8_told (some .int) 4 RX8 G A) (t_isKept : Int32) (t_work : Int32) (t_kind : Int32) (t_letters : Int32) (t_at : Int32) (t_fault : Int32) (t_back : Int32) (t_waits : Int32) (t_miles : Int32) (t_loads : Int32) (t_bestRound : Int32) (t_bestPlace : Int32) (t_bestAdds : Int32) (t_regret : Int32) (t_z : Int32) (t_s : Nat → Int32) (t_comes : Nat → Int32) (t_begins : Nat → Int32) (x2 : Int32) (x3 : Int32) (k105 : Int32 × Int32 → Option (Int32 × (Nat → Int32) × (Nat → Int32) × Int32 × Int32 × Int32)) (hk105 : ∀ {H : Heap} {locs : List Loc} {ls : Array Slot} (x2' : Int32) (x3' : Int32), k105 (x2', x3') = some (r, z_t_comes, z_t_begins, z_t_back, z_t_waits, z_t_loads) → St G A s.heap H locs (w_X8_told G a_t a_t_s a_t_image a_t_mind a_t_aside a_t_text a_t_read a_t_comes a_t_begins a_t_latest a_t_move a_t_sort a_t_items a_t_cell a_t_carried t_isKept t_work t_kind t_letters t_at t_fault t_back t_waits t_miles t_loads t_bestRound t_bestPlace t_bestAdds t_regret t_z t_s t_comes t_begins) → lv_has ls 4 [(0, .ref a_t), (2, .int x2'), (3, .int x3')] → W p l e rm_X8_told s m args below meth c H locs 0 0 (QI G below args s A r (w_X8_told G a_t a_t_s a_t_image a_t_mind a_t_aside a_t_text a_t_read a_t_comes a_t_begins a_t_latest a_t_move a_t_sort a_t_items a_t_cell a_t_carried t_isKept t_work t_kind t_letters t_at t_fault z_t_back z_t_waits t_miles z_t_loads t_bestRound t_bestPlace t_bestAdds t_regret t_z t_s z_t_comes z_t_begins)) (F0 m 105 ls [])) {H : Heap} {locs : List Loc} {ls : Array Slot} (hf : b_X8_told_105 t_s t_comes t_begins t_back t_waits t_loads k105 x2 x3 = some (r, z_t_comes, z_t_begins, z_t_back, z_t_waits, z_t_loads)) (S : St G A s.heap H locs (w_X8_told G a_t a_t_s a_t_image a_t_mind a_t_aside a_t_text a_t_read a_t_comes a_t_begins a_t_latest a_t_move a_t_sort a_t_items a_t_cell a_t_carried t_isKept t_work t_kind t_letters t_at t_fault t_back t_waits t_miles t_loads t_bestRound t_bestPlace t_bestAdds t_regret t_z t_s t_comes t_begins)) (hl : lv_has ls 4 [(0, .ref a_t), (2, .int x2), (3, .int x3)]) : W p l e rm_X8_told s m args below meth c H locs 0 0 (QI G below args s A r (w_X8_told G a_t a_t_s a_t_image a_t_mind a_t_aside a_t_text a_t_read a_t_comes a_t_begins a_t_latest a_t_move a_t_sort a_t_items a_t_cell a_t_carried t_isKept t_work t_kind t_letters t_at t_fault z_t_back z_t_waits t_miles z_t_loads t_bestRound t_bestPlace t_bestAdds t_regret t_z t_s z_t_comes z_t_begins)) (F0 m 105 ls []) := by
  unfold b_X8_told_105 at hf
  have hx := C.1
  have hb := C.2.1
  have hown := C.2.2.2.2.1
  have hts := C.2.2.2.2.2.1
  have hN := C.2.2.2.2.2.2.2.2.2.2
  refine lv_iload_n (pc := 105) hx hb dX8_told_105 rfl (lv_at hl 2 rfl) ?_
  refine lv_iconst (pc := 106) hx hb dX8_told_106 ic_4 ?_
  refine lv_icmp_ge (tgt := 133) (pc := 107) hx hb dX8_told_107 (by decide) (fun c1 => ?_) (fun c1 => ?_)
  · have hf := ifp c1 hf
    refine lv_iload_n (pc := 133) hx hb dX8_told_133 rfl (lv_at hl 1 rfl) ?_
    cases hf
    exact x_iret (pc := 134) C S dX8_told_134
  · have hf := ifn c1 hf
    refine lv_iload_n (pc := 110) hx hb dX8_told_110 rfl (lv_at hl 1 rfl) ?_
    refine lv_aload_n (pc := 111) hx hb dX8_told_111 rfl (lv_at hl 0 rfl) ?_
    refine lv_iload_n (pc := 112) hx hb dX8_told_112 rfl (lv_at hl 2 rfl) ?_
    refine lv_iconst (pc := 113) hx hb dX8_told_113 ic_3 ?_
    obtain ⟨r2, hq2, hf⟩ := bd_e hf
    refine x_vI (pc := 114) (As := [.int x3, .int (3 : Int32)]) (rest := [.int x2]) (isC := [0, 1]) (ws' := (w_X8_told G a_t a_t_s a_t_image a_t_mind a_t_aside a_t_text a_t_read a_t_comes a_t_begins a_t_latest a_t_move a_t_sort a_t_items a_t_cell a_t_carried t_isKept t_work t_kind t_letters t_at t_fault t_back t_waits t_miles t_loads t_bestRound t_bestPlace t_bestAdds t_regret t_z t_s t_comes t_begins)) C S (c_X8_roundAt l G a_t a_t_s a_t_image a_t_mind a_t_aside a_t_text a_t_read a_t_comes a_t_begins a_t_latest a_t_move a_t_sort a_t_items a_t_cell a_t_carried t_isKept t_work t_kind t_letters t_at t_fault t_back t_waits t_miles t_loads t_bestRound t_bestPlace t_bestAdds t_regret t_z t_s x3 (3 : Int32) r2 hq2) (u_X8_told_X8_roundAt_59 hts) (ci := 8) rfl 0 rfl rfl (by decide +kernel) [some 0, some 1, none, none] (by decide +kernel) rfl rfl rfl hl.1 rfl (Nat.le_of_ble_eq_true rfl) dX8_told_114 (fun H locs S => ?_)
    refine lv_if_le (tgt := 124) (pc := 117) hx hb dX8_told_117 (by decide) (fun c3 => ?_) (fun c3 => ?_)
    · have hf := ifp c3 hf
      refine lv_iconst (pc := 124) hx hb dX8_told_124 ic_0 ?_
      refine lv_iadd (pc := 125) hx hb dX8_told_125 ?_
      refine lv_istore_n (pc := 126) (lv' := [(2, .int (x2 + (0 : Int32))), (0, .ref a_t), (3, .int x3)]) hx hb dX8_told_126 rfl hl (by decide) rfl (fun ls hl => ?_)
      refine lv_iinc (pc := 127) (v := (x3 + (1 : Int32))) (lv' := [(3, .int (x3 + (1 : Int32))), (2, .int (x2 + (0 : Int32))), (0, .ref a_t)]) hx hb dX8_told_127 hl (k := 2) rfl (congrArg (fun z => x3 + z) ic_1) (by decide) rfl (fun ls hl => ?_)
      refine lv_goto (tgt := 105) (pc := 130) hx hb dX8_told_130 (by decide) ?_
      exact hk105 ((x2 + (0 : Int32))) ((x3 + (1 : Int32)))  hf S (lv_sub hl [2, 1, 0] rfl)
    · have hf := ifn c3 hf
      refine lv_iconst (pc := 120) hx hb dX8_told_120 ic_1 ?_
      refine lv_goto (tgt := 125) (pc := 121) hx hb dX8_told_121 (by decide) ?_
      refine lv_iadd (pc := 125) hx hb dX8_told_125 ?_
      refine lv_istore_n (pc := 126) (lv' := [(2, .int (x2 + (1 : Int32))), (0, .ref a_t), (3, .int x3)]) hx hb dX8_told_126 rfl hl (by decide) rfl (fun ls hl => ?_)
      refine lv_iinc (pc := 127) (v := (x3 + (1 : Int32))) (lv' := [(3, .int (x3 + (1 : Int32))), (2, .int (x2 + (1 : Int32))), (0, .ref a_t)]) hx hb dX8_told_127 hl (k := 2) rfl (congrArg (fun z => x3 + z) ic_1) (by decide) rfl (fun ls hl => ?_)
      refine lv_goto (tgt := 105) (pc := 130) hx hb dX8_told_130 (by decide) ?_
      exact hk105 ((x2 + (1 : Int32))) ((x3 + (1 : Int32)))  hf S (lv_sub hl [2, 1, 0] rfl)
set_option maxRecDepth 100000 in
set_option maxHeartbeats 4000000 in
theorem h_X8_told_105 (C : Cx p s m args meth c cX8_told (some .int) 4 RX8 G A) (t_isKept : Int32) (t_work : Int32) (t_kind : Int32) (t_letters : Int32) (t_at : Int32) (t_fault : Int32) (t_back : Int32) (t_waits : Int32) (t_miles : Int32) (t_loads : Int32) (t_bestRound : Int32) (t_bestPlace : Int32) (t_bestAdds : Int32) (t_regret : Int32) (t_z : Int32) (t_s : Nat → Int32) (t_comes : Nat → Int32) (t_begins : Nat → Int32) : ∀ (n : Nat) (x2 : Int32) (x3 : Int32) {H : Heap} {locs : List Loc} {ls : Array Slot} (hf : lp (fun k x => b_X8_told_105 t_s t_comes t_begins t_back t_waits t_loads k x.1 x.2) n (x2, x3) = some (r, z_t_comes, z_t_begins, z_t_back, z_t_waits, z_t_loads)) (S : St G A s.heap H locs (w_X8_told G a_t a_t_s a_t_image a_t_mind a_t_aside a_t_text a_t_read a_t_comes a_t_begins a_t_latest a_t_move a_t_sort a_t_items a_t_cell a_t_carried t_isKept t_work t_kind t_letters t_at t_fault t_back t_waits t_miles t_loads t_bestRound t_bestPlace t_bestAdds t_regret t_z t_s t_comes t_begins)) (hl : lv_has ls 4 [(0, .ref a_t), (2, .int x2), (3, .int x3)]), W p l e rm_X8_told s m args below meth c H locs 0 0 (QI G below args s A r (w_X8_told G a_t a_t_s a_t_image a_t_mind a_t_aside a_t_text a_t_read a_t_comes a_t_begins a_t_latest a_t_move a_t_sort a_t_items a_t_cell a_t_carried t_isKept t_work t_kind t_letters t_at t_fault z_t_back z_t_waits t_miles z_t_loads t_bestRound t_bestPlace t_bestAdds t_regret t_z t_s z_t_comes z_t_begins)) (F0 m 105 ls []) := by
  intro n
  induction n with
  | zero =>
    intro x2 x3  H locs ls hf
    cases hf
  | succ n ih =>
    intro x2 x3  H locs ls hf S hl
    have hf : b_X8_told_105 t_s t_comes t_begins t_back t_waits t_loads (lp (fun k x => b_X8_told_105 t_s t_comes t_begins t_back t_waits t_loads k x.1 x.2) n) x2 x3 = some (r, z_t_comes, z_t_begins, z_t_back, z_t_waits, z_t_loads) := hf
    exact k_X8_told_105 C t_isKept t_work t_kind t_letters t_at t_fault t_back t_waits t_miles t_loads t_bestRound t_bestPlace t_bestAdds t_regret t_z t_s t_comes t_begins x2 x3  (lp (fun k x => b_X8_told_105 t_s t_comes t_begins t_back t_waits t_loads k x.1 x.2) n) (fun x2' x3'  h S hl => ih x2' x3'  h S hl) hf S hl
set_option maxRecDepth 100000 in
set_option maxHeartbeats 4000000 in
theorem c_X8_told (l : Launch) (G : GE) (a_t a_t_s a_t_image a_t_mind a_t_aside a_t_text a_t_read a_t_comes a_t_begins a_t_latest a_t_move a_t_sort a_t_items a_t_cell a_t_carried : Nat) (t_isKept : Int32) (t_work : Int32) (t_kind : Int32) (t_letters : Int32) (t_at : Int32) (t_fault : Int32) (t_back : Int32) (t_waits : Int32) (t_miles : Int32) (t_loads : Int32) (t_bestRound : Int32) (t_bestPlace : Int32) (t_bestAdds : Int32) (t_regret : Int32) (t_z : Int32) (t_s : Nat → Int32) (t_comes : Nat → Int32) (t_begins : Nat → Int32) (x1 : Int32) (r : Int32) (z_t_comes : Nat → Int32) (z_t_begins : Nat → Int32) (z_t_back : Int32) (z_t_waits : Int32) (z_t_loads : Int32) (hf : f_X8_told t_s t_comes t_begins t_back t_waits t_loads x1 = some (r, z_t_comes, z_t_begins, z_t_back, z_t_waits, z_t_loads)) : CI l G yX8_told kw_X8_told rm_X8_told [.ref a_t, .int x1] (w_X8_told G a_t a_t_s a_t_image a_t_mind a_t_aside a_t_text a_t_read a_t_comes a_t_begins a_t_latest a_t_move a_t_sort a_t_items a_t_cell a_t_carried t_isKept t_work t_kind t_letters t_at t_fault t_back t_waits t_miles t_loads t_bestRound t_bestPlace t_bestAdds t_regret t_z t_s t_comes t_begins) r (w_X8_told G a_t a_t_s a_t_image a_t_mind a_t_aside a_t_text a_t_read a_t_comes a_t_begins a_t_latest a_t_move a_t_sort a_t_items a_t_cell a_t_carried t_isKept t_work t_kind t_letters t_at t_fault z_t_back z_t_waits t_miles z_t_loads t_bestRound t_bestPlace t_bestAdds t_regret t_z t_s z_t_comes z_t_begins) := by
  refine en_I (cc := cX8_told) (maxL := 4) (ret := (some .int)) (by decide +kernel) (Nat.le_of_ble_eq_true rfl) ?_
  intro p e s m args below meth c A ls C S hl
  have hl : lv_has ls 4 [(0, .ref a_t), (1, .int x1)] := hl
  have C : Cx p s m args meth c cX8_told (some .int) 4 RX8 G A := C
  unfold f_X8_told at hf
  have hx := C.1
  have hb := C.2.1
  have hown := C.2.2.2.2.1
  have hts := C.2.2.2.2.2.1
  have hN := C.2.2.2.2.2.2.2.2.2.2
  refine lv_iconst (pc := 0) hx hb dX8_told_0 ic_0 ?_
  refine lv_istore_n (pc := 1) (lv' := [(2, .int (0 : Int32)), (0, .ref a_t), (1, .int x1)]) hx hb dX8_told_1 rfl hl (by decide) rfl (fun ls hl => ?_)
  refine lv_iload_n (pc := 2) hx hb dX8_told_2 rfl (lv_at hl 2 rfl) ?_
  by_cases s1_0 : x1 = (0 : Int32)
  · have hf := ifp s1_0 hf
    refine lv_tableIn (tgt := 40) (off := 37) (x := x1) (pc := 3) hx hb dX8_told_3 (by rw [s1_0]; decide) (by rw [s1_0]; decide) (by rw [s1_0]; decide) (by decide) ?_
    refine lv_aload_n (pc := 40) hx hb dX8_told_40 rfl (lv_at hl 1 rfl) ?_
    obtain ⟨r2, hq2, hf⟩ := bd_e hf
    refine x_vI (pc := 41) (As := []) (rest := []) (isC := [0, 1]) (ws' := (w_X8_told G a_t a_t_s a_t_image a_t_mind a_t_aside a_t_text a_t_read a_t_comes a_t_begins a_t_latest a_t_move a_t_sort a_t_items a_t_cell a_t_carried t_isKept t_work t_kind t_letters t_at t_fault t_back t_waits t_miles t_loads t_bestRound t_bestPlace t_bestAdds t_regret t_z t_s t_comes t_begins)) C S (c_X8_cost l G a_t a_t_s a_t_image a_t_mind a_t_aside a_t_text a_t_read a_t_comes a_t_begins a_t_latest a_t_move a_t_sort a_t_items a_t_cell a_t_carried t_isKept t_work t_kind t_letters t_at t_fault t_back t_waits t_miles t_loads t_bestRound t_bestPlace t_bestAdds t_regret t_z t_s r2 hq2) (u_X8_told_X8_cost_177 hts) (ci := 8) rfl 0 rfl rfl (by decide +kernel) [some 0, some 1, none, none] (by decide +kernel) rfl rfl rfl hl.1 rfl (Nat.le_of_ble_eq_true rfl) dX8_told_41 (fun H locs S => ?_)
    cases hf
    exact x_iret (pc := 44) C S dX8_told_44
  have hf := ifn s1_0 hf
  by_cases s1_1 : x1 = (1 : Int32)
  · have hf := ifp s1_1 hf
    refine lv_tableIn (tgt := 45) (off := 42) (x := x1) (pc := 3) hx hb dX8_told_3 (by rw [s1_1]; decide) (by rw [s1_1]; decide) (by rw [s1_1]; decide) (by decide) ?_
    refine lv_iconst (pc := 45) hx hb dX8_told_45 ic_0 ?_
    refine lv_istore_n (pc := 46) (lv' := [(3, .int (0 : Int32)), (2, .int (0 : Int32)), (0, .ref a_t), (1, .int x1)]) hx hb dX8_told_46 rfl hl (by decide) rfl (fun ls hl => ?_)
    exact h_X8_told_47 C (t_isKept) (t_work) (t_kind) (t_letters) (t_at) (t_fault) (t_back) (t_waits) (t_miles) (t_loads) (t_bestRound) (t_bestPlace) (t_bestAdds) (t_regret) (t_z) (t_s) (t_comes) (t_begins) fu ((0 : Int32)) ((0 : Int32)) hf S (lv_sub hl [2, 1, 0] rfl)
  have hf := ifn s1_1 hf
  by_cases s1_2 : x1 = (2 : Int32)
  · have hf := ifp s1_2 hf
    refine lv_tableIn (tgt := 68) (off := 65) (x := x1) (pc := 3) hx hb dX8_told_3 (by rw [s1_2]; decide) (by rw [s1_2]; decide) (by rw [s1_2]; decide) (by decide) ?_
    refine lv_aload_n (pc := 68) hx hb dX8_told_68 rfl (lv_at hl 1 rfl) ?_
    obtain ⟨r3, hq3, hf⟩ := bd_e hf
    refine x_vI (pc := 69) (As := []) (rest := []) (isC := [0, 1]) (ws' := (w_X8_told G a_t a_t_s a_t_image a_t_mind a_t_aside a_t_text a_t_read a_t_comes a_t_begins a_t_latest a_t_move a_t_sort a_t_items a_t_cell a_t_carried t_isKept t_work t_kind t_letters t_at t_fault t_back t_waits t_miles t_loads t_bestRound t_bestPlace t_bestAdds t_regret t_z t_s t_comes t_begins)) C S (c_X8_inNone l G a_t a_t_s a_t_image a_t_mind a_t_aside a_t_text a_t_read a_t_comes a_t_begins a_t_latest a_t_move a_t_sort a_t_items a_t_cell a_t_carried t_isKept t_work t_kind t_letters t_at t_fault t_back t_waits t_miles t_loads t_bestRound t_bestPlace t_bestAdds t_regret t_z t_s r3 hq3) (u_X8_told_X8_inNone_242 hts) (ci := 8) rfl 0 rfl rfl (by decide +kernel) [some 0, some 1, none, none] (by decide +kernel) rfl rfl rfl hl.1 rfl (Nat.le_of_ble_eq_true rfl) dX8_told_69 (fun H locs S => ?_)
    cases hf
    exact x_iret (pc := 72) C S dX8_told_72
  have hf := ifn s1_2 hf
  by_cases s1_3 : x1 = (3 : Int32)
  · have hf := ifp s1_3 hf
    refine lv_tableIn (tgt := 73) (off := 70) (x := x1) (pc := 3) hx hb dX8_told_3 (by rw [s1_3]; decide) (by rw [s1_3]; decide) (by rw [s1_3]; decide) (by decide) ?_
    refine lv_iconst (pc := 73) hx hb dX8_told_73 ic_0 ?_
    refine lv_istore_n (pc := 74) (lv' := [(3, .int (0 : Int32)), (2, .int (0 : Int32)), (0, .ref a_t), (1, .int x1)]) hx hb dX8_told_74 rfl hl (by decide) rfl (fun ls hl => ?_)
    exact h_X8_told_75 C (t_isKept) (t_work) (t_kind) (t_letters) (t_at) (t_fault) (t_back) (t_waits) (t_miles) (t_loads) (t_bestRound) (t_bestPlace) (t_bestAdds) (t_regret) (t_z) (t_s) (t_comes) (t_begins) fu ((0 : Int32)) ((0 : Int32)) hf S (lv_sub hl [2, 1, 0] rfl)
  have hf := ifn s1_3 hf
  by_cases s1_4 : x1 = (4 : Int32)
  · have hf := ifp s1_4 hf
    refine lv_tableIn (tgt := 103) (off := 100) (x := x1) (pc := 3) hx hb dX8_told_3 (by rw [s1_4]; decide) (by rw [s1_4]; decide) (by rw [s1_4]; decide) (by decide) ?_
    refine lv_iconst (pc := 103) hx hb dX8_told_103 ic_0 ?_
    refine lv_istore_n (pc := 104) (lv' := [(3, .int (0 : Int32)), (2, .int (0 : Int32)), (0, .ref a_t), (1, .int x1)]) hx hb dX8_told_104 rfl hl (by decide) rfl (fun ls hl => ?_)
    exact h_X8_told_105 C (t_isKept) (t_work) (t_kind) (t_letters) (t_at) (t_fault) (t_back) (t_waits) (t_miles) (t_loads) (t_bestRound) (t_bestPlace) (t_bestAdds) (t_regret) (t_z) (t_s) (t_comes) (t_begins) fu ((0 : Int32)) ((0 : Int32)) hf S (lv_sub hl [2, 1, 0] rfl)
  have hf := ifn s1_4 hf
  by_cases s1_5 : x1 = (5 : Int32)
  · have hf := ifp s1_5 hf
    refine lv_tableIn (tgt := 135) (off := 132) (x := x1) (pc := 3) hx hb dX8_told_3 (by rw [s1_5]; decide) (by rw [s1_5]; decide) (by rw [s1_5]; decide) (by decide) ?_
    refine lv_aload_n (pc := 135) hx hb dX8_told_135 rfl (lv_at hl 1 rfl) ?_
    obtain ⟨⟨r4, o4_t_comes, o4_t_begins, o4_t_back, o4_t_waits, o4_t_loads⟩, hq4, hf⟩ := bd_e hf
    refine x_vI (pc := 136) (As := []) (rest := []) (isC := [0, 1, 2, 3]) (ws' := (w_X8_told G a_t a_t_s a_t_image a_t_mind a_t_aside a_t_text a_t_read a_t_comes a_t_begins a_t_latest a_t_move a_t_sort a_t_items a_t_cell a_t_carried t_isKept t_work t_kind t_letters t_at t_fault o4_t_back o4_t_waits t_miles o4_t_loads t_bestRound t_bestPlace t_bestAdds t_regret t_z t_s o4_t_comes o4_t_begins)) C S (c_X8_allWaits l G a_t a_t_s a_t_image a_t_mind a_t_aside a_t_text a_t_read a_t_comes a_t_begins a_t_latest a_t_move a_t_sort a_t_items a_t_cell a_t_carried t_isKept t_work t_kind t_letters t_at t_fault t_back t_waits t_miles t_loads t_bestRound t_bestPlace t_bestAdds t_regret t_z t_s t_comes t_begins r4 o4_t_comes o4_t_begins o4_t_back o4_t_waits o4_t_loads hq4) (u_X8_told_X8_allWaits_245 hts) (ci := 8) rfl 0 rfl rfl (by decide +kernel) [some 0, some 1, some 2, some 3] (by decide +kernel) rfl rfl rfl hl.1 rfl (Nat.le_of_ble_eq_true rfl) dX8_told_136 (fun H locs S => ?_)
    cases hf
    exact x_iret (pc := 139) C S dX8_told_139
  have hf := ifn s1_5 hf
  have z1_0 := lv_neT (a := 0) s1_0 (by decide)
  have z1_1 := lv_neT (a := 1) s1_1 (by decide)
  have z1_2 := lv_neT (a := 2) s1_2 (by decide)
  have z1_3 := lv_neT (a := 3) s1_3 (by decide)
  have z1_4 := lv_neT (a := 4) s1_4 (by decide)
  have z1_5 := lv_neT (a := 5) s1_5 (by decide)
  refine lv_tableOut (tgt := 140) (x := x1) (pc := 3) hx hb dX8_told_3 (by omega) (by decide) ?_
  refine lv_iconst (pc := 140) hx hb dX8_told_140 ic_m1 ?_
  cases hf
  exact x_iret (pc := 141) C S dX8_told_141
end

abbrev rm_X8_turn : Room := { frames := 6, cells := 0, slots := 0, locals := 145 }
abbrev kw_X8_turn : Cond := .code yX8_turn cX8_turn 4 (some .int)
abbrev w_X8_turn (G : GE) (a_t a_t_s a_t_image a_t_mind a_t_aside a_t_text a_t_read a_t_comes a_t_begins a_t_latest a_t_move a_t_sort a_t_items a_t_cell a_t_carried : Nat) (t_isKept : Int32) (t_work : Int32) (t_kind : Int32) (t_letters : Int32) (t_at : Int32) (t_fault : Int32) (t_back : Int32) (t_waits : Int32) (t_miles : Int32) (t_loads : Int32) (t_bestRound : Int32) (t_bestPlace : Int32) (t_bestAdds : Int32) (t_regret : Int32) (t_z : Int32) (t_s : Nat → Int32) (t_comes : Nat → Int32) (t_begins : Nat → Int32) : va_W := [(a_t, ob 8 [.ref a_t_s, .ref a_t_image, .ref a_t_mind, .ref a_t_aside, .int t_isKept, .int t_work, .int t_kind, .ref a_t_text, .ref a_t_read, .int t_letters, .int t_at, .int t_fault, .ref a_t_comes, .ref a_t_begins, .ref a_t_latest, .int t_back, .int t_waits, .int t_miles, .int t_loads, .int t_bestRound, .int t_bestPlace, .int t_bestAdds, .int t_regret, .ref a_t_move, .ref a_t_sort, .ref a_t_items, .ref a_t_cell, .ref a_t_carried, .int t_z]), (a_t_s, aI G 258 t_s), (a_t_comes, aI G 16 t_comes), (a_t_begins, aI G 16 t_begins)]
theorem u_X8_turn_X8_isRound_162 {s : State} {args : Array Value} (hts : ∀ w ∈ WU, w.before args s = true) : CallB rm_X8_turn s args RX8 162 yX8_isRound cX8_isRound 1 (some .boolean) (kw_X8_isRound :: WU) rm_X8_isRound 0 0 1 ∧ (Cond.static yX8_isRound).before args s = true := va_cwS 1 hts (gS qm_8_162 qs_X8_isRound qn_8 qc_X8_isRound) rfl rfl rfl (by decide +kernel) ⟨Nat.le_of_ble_eq_true rfl, Nat.le_of_ble_eq_true rfl⟩
theorem u_X8_turn_X8_roundAt_59 {s : State} {args : Array Value} (hts : ∀ w ∈ WU, w.before args s = true) : CallW rm_X8_turn s args RX8 RX8 59 yX8_roundAt cX8_roundAt 3 (some .int) (kw_X8_roundAt :: WU) rm_X8_roundAt 0 0 2 := cwV 2 hts (gV qm_8_59 qi_X8_roundAt ql_X8_roundAt qn_8 qc_X8_roundAt) rfl rfl rfl (by decide +kernel) ⟨Nat.le_of_ble_eq_true rfl, Nat.le_of_ble_eq_true rfl⟩
theorem u_X8_turn_X8_turnGains_220 {s : State} {args : Array Value} (hts : ∀ w ∈ WU, w.before args s = true) : CallW rm_X8_turn s args RX8 RX8 220 yX8_turnGains cX8_turnGains 6 (some .int) (kw_X8_turnGains :: WU) rm_X8_turnGains 0 0 3 := cwV 3 hts (gV qm_8_220 qi_X8_turnGains ql_X8_turnGains qn_8 qc_X8_turnGains) rfl rfl rfl (by decide +kernel) ⟨Nat.le_of_ble_eq_true rfl, Nat.le_of_ble_eq_true rfl⟩
section
variable {p : Program} {l : Launch} {e : Env} {s : State} {m : MethodId} {args : Array Value} {below : List Frame} {meth : Method} {c : Code} {A : Nat → Prop} {G : GE} {a_t a_t_s a_t_image a_t_mind a_t_aside a_t_text a_t_read a_t_comes a_t_begins a_t_latest a_t_move a_t_sort a_t_items a_t_cell a_t_carried : Nat} {r : Int32} {z_t_s : Nat → Int32} {z_t_comes : Nat → Int32} {z_t_begins : Nat → Int32} {z_t_back : Int32} {z_t_waits : Int32} {z_t_loads : Int32}
set_option maxRecDepth 100000 in
set_option maxHeartbeats 4000000 in
theorem c_X8_turn (l : Launch) (G : GE) (a_t a_t_s a_t_image a_t_mind a_t_aside a_t_text a_t_read a_t_comes a_t_begins a_t_latest a_t_move a_t_sort a_t_items a_t_cell a_t_carried : Nat) (t_isKept : Int32) (t_work : Int32) (t_kind : Int32) (t_letters : Int32) (t_at : Int32) (t_fault : Int32) (t_back : Int32) (t_waits : Int32) (t_miles : Int32) (t_loads : Int32) (t_bestRound : Int32) (t_bestPlace : Int32) (t_bestAdds : Int32) (t_regret : Int32) (t_z : Int32) (t_s : Nat → Int32) (t_comes : Nat → Int32) (t_begins : Nat → Int32) (x1 : Int32) (x2 : Int32) (x3 : Int32) (r : Int32) (z_t_s : Nat → Int32) (z_t_comes : Nat → Int32) (z_t_begins : Nat → Int32) (z_t_back : Int32) (z_t_waits : Int32) (z_t_loads : Int32) (hf : f_X8_turn t_s t_comes t_begins t_back t_waits t_loads x1 x2 x3 = some (r, z_t_s, z_t_comes, z_t_begins, z_t_back, z_t_waits, z_t_loads)) : CI l G yX8_turn kw_X8_turn rm_X8_turn [.ref a_t, .int x1, .int x2, .int x3] (w_X8_turn G a_t a_t_s a_t_image a_t_mind a_t_aside a_t_text a_t_read a_t_comes a_t_begins a_t_latest a_t_move a_t_sort a_t_items a_t_cell a_t_carried t_isKept t_work t_kind t_letters t_at t_fault t_back t_waits t_miles t_loads t_bestRound t_bestPlace t_bestAdds t_regret t_z t_s t_comes t_begins) r (w_X8_turn G a_t a_t_s a_t_image a_t_mind a_t_aside a_t_text a_t_read a_t_comes a_t_begins a_t_latest a_t_move a_t_sort a_t_items a_t_cell a_t_carried t_isKept t_work t_kind t_letters t_at t_fault z_t_back z_t_waits t_miles z_t_loads t_bestRound t_bestPlace t_bestAdds t_regret t_z z_t_s z_t_comes z_t_begins) := by
  refine en_I (cc := cX8_turn) (maxL := 4) (ret := (some .int)) (by decide +kernel) (Nat.le_of_ble_eq_true rfl) ?_
  intro p e s m args below meth c A ls C S hl
  have hl : lv_has ls 4 [(0, .ref a_t), (1, .int x1), (2, .int x2), (3, .int x3)] := hl
  have C : Cx p s m args meth c cX8_turn (some .int) 4 RX8 G A := C
  unfold f_X8_turn at hf
  have hx := C.1
  have hb := C.2.1
  have hown := C.2.2.2.2.1
  have hts := C.2.2.2.2.2.1
  have hN := C.2.2.2.2.2.2.2.2.2.2
  refine lv_iload_n (pc := 0) hx hb dX8_turn_0 rfl (lv_at hl 1 rfl) ?_
  obtain ⟨r1, hq1, hf⟩ := bd_e hf
  refine x_sI (pc := 1) (As := [.int x1]) (rest := []) (isC := []) (ws' := (w_X8_turn G a_t a_t_s a_t_image a_t_mind a_t_aside a_t_text a_t_read a_t_comes a_t_begins a_t_latest a_t_move a_t_sort a_t_items a_t_cell a_t_carried t_isKept t_work t_kind t_letters t_at t_fault t_back t_waits t_miles t_loads t_bestRound t_bestPlace t_bestAdds t_regret t_z t_s t_comes t_begins)) C S (c_X8_isRound l G x1 r1 hq1) (u_X8_turn_X8_isRound_162 hts) rfl (by decide +kernel) [none, none, none, none] (by decide +kernel) rfl rfl rfl hl.1 rfl (Nat.le_of_ble_eq_true rfl) dX8_turn_1 (fun H locs S => ?_)
  refine lv_if_ne (tgt := 9) (pc := 4) hx hb dX8_turn_4 (by decide) (fun c2 => ?_) (fun c2 => ?_)
  · have hf := ifn c2 hf
    refine lv_iload_n (pc := 9) hx hb dX8_turn_9 rfl (lv_at hl 2 rfl) ?_
    refine lv_if_lt (tgt := 38) (pc := 10) hx hb dX8_turn_10 (by decide) (fun c3 => ?_) (fun c3 => ?_)
    · have hf := ifp c3 hf
      refine lv_bipush (pc := 38) hx hb dX8_turn_38 bc_m2 ?_
      cases hf
      exact x_iret (pc := 40) C S dX8_turn_40
    · have hf := ifn c3 hf
      refine lv_iload_n (pc := 13) hx hb dX8_turn_13 rfl (lv_at hl 2 rfl) ?_
      refine lv_iload_n (pc := 14) hx hb dX8_turn_14 rfl (lv_at hl 3 rfl) ?_
      refine lv_icmp_ge (tgt := 38) (pc := 15) hx hb dX8_turn_15 (by decide) (fun c4 => ?_) (fun c4 => ?_)
      · have hf := ifp c4 hf
        refine lv_bipush (pc := 38) hx hb dX8_turn_38 bc_m2 ?_
        cases hf
        exact x_iret (pc := 40) C S dX8_turn_40
      · have hf := ifn c4 hf
        refine lv_iload_n (pc := 18) hx hb dX8_turn_18 rfl (lv_at hl 3 rfl) ?_
        refine lv_aload_n (pc := 19) hx hb dX8_turn_19 rfl (lv_at hl 0 rfl) ?_
        refine lv_iload_n (pc := 20) hx hb dX8_turn_20 rfl (lv_at hl 1 rfl) ?_
        refine lv_iconst (pc := 21) hx hb dX8_turn_21 ic_3 ?_
        obtain ⟨r5, hq5, hf⟩ := bd_e hf
        refine x_vI (pc := 22) (As := [.int x1, .int (3 : Int32)]) (rest := [.int x3]) (isC := [0, 1]) (ws' := (w_X8_turn G a_t a_t_s a_t_image a_t_mind a_t_aside a_t_text a_t_read a_t_comes a_t_begins a_t_latest a_t_move a_t_sort a_t_items a_t_cell a_t_carried t_isKept t_work t_kind t_letters t_at t_fault t_back t_waits t_miles t_loads t_bestRound t_bestPlace t_bestAdds t_regret t_z t_s t_comes t_begins)) C S (c_X8_roundAt l G a_t a_t_s a_t_image a_t_mind a_t_aside a_t_text a_t_read a_t_comes a_t_begins a_t_latest a_t_move a_t_sort a_t_items a_t_cell a_t_carried t_isKept t_work t_kind t_letters t_at t_fault t_back t_waits t_miles t_loads t_bestRound t_bestPlace t_bestAdds t_regret t_z t_s x1 (3 : Int32) r5 hq5) (u_X8_turn_X8_roundAt_59 hts) (ci := 8) rfl 0 rfl rfl (by decide +kernel) [some 0, some 1, none, none] (by decide +kernel) rfl rfl rfl hl.1 rfl (Nat.le_of_ble_eq_true rfl) dX8_turn_22 (fun H locs S => ?_)
        refine lv_icmp_ge (tgt := 38) (pc := 25) hx hb dX8_turn_25 (by decide) (fun c6 => ?_) (fun c6 => ?_)
        · have hf := ifp c6 hf
          refine lv_bipush (pc := 38) hx hb dX8_turn_38 bc_m2 ?_
          cases hf
          exact x_iret (pc := 40) C S dX8_turn_40
        · have hf := ifn c6 hf
          refine lv_aload_n (pc := 28) hx hb dX8_turn_28 rfl (lv_at hl 0 rfl) ?_
          refine lv_iload_n (pc := 29) hx hb dX8_turn_29 rfl (lv_at hl 1 rfl) ?_
          refine lv_iload_n (pc := 30) hx hb dX8_turn_30 rfl (lv_at hl 2 rfl) ?_
          refine lv_iload_n (pc := 31) hx hb dX8_turn_31 rfl (lv_at hl 3 rfl) ?_
          obtain ⟨⟨r7, o7_t_s, o7_t_comes, o7_t_begins, o7_t_back, o7_t_waits, o7_t_loads⟩, hq7, hf⟩ := bd_e hf
          refine x_vI (pc := 32) (As := [.int x1, .int x2, .int x3]) (rest := []) (isC := [0, 1, 2, 3]) (ws' := (w_X8_turn G a_t a_t_s a_t_image a_t_mind a_t_aside a_t_text a_t_read a_t_comes a_t_begins a_t_latest a_t_move a_t_sort a_t_items a_t_cell a_t_carried t_isKept t_work t_kind t_letters t_at t_fault o7_t_back o7_t_waits t_miles o7_t_loads t_bestRound t_bestPlace t_bestAdds t_regret t_z o7_t_s o7_t_comes o7_t_begins)) C S (c_X8_turnGains l G a_t a_t_s a_t_image a_t_mind a_t_aside a_t_text a_t_read a_t_comes a_t_begins a_t_latest a_t_move a_t_sort a_t_items a_t_cell a_t_carried t_isKept t_work t_kind t_letters t_at t_fault t_back t_waits t_miles t_loads t_bestRound t_bestPlace t_bestAdds t_regret t_z t_s t_comes t_begins x1 x2 x3 r7 o7_t_s o7_t_comes o7_t_begins o7_t_back o7_t_waits o7_t_loads hq7) (u_X8_turn_X8_turnGains_220 hts) (ci := 8) rfl 0 rfl rfl (by decide +kernel) [some 0, some 1, some 2, some 3] (by decide +kernel) rfl rfl rfl hl.1 rfl (Nat.le_of_ble_eq_true rfl) dX8_turn_32 (fun H locs S => ?_)
          refine lv_goto (tgt := 40) (pc := 35) hx hb dX8_turn_35 (by decide) ?_
          cases hf
          exact x_iret (pc := 40) C S dX8_turn_40
  · have hf := ifp c2 hf
    refine lv_iconst (pc := 7) hx hb dX8_turn_7 ic_m1 ?_
    cases hf
    exact x_iret (pc := 8) C S dX8_turn_8
end

abbrev rm_X8_undo : Room := { frames := 1, cells := 0, slots := 0, locals := 22 }
abbrev kw_X8_undo : Cond := .code yX8_undo cX8_undo 1 (some .int)
abbrev w_X8_undo (G : GE) (a_t a_t_s a_t_image a_t_mind a_t_aside a_t_text a_t_read a_t_comes a_t_begins a_t_latest a_t_move a_t_sort a_t_items a_t_cell a_t_carried : Nat) (t_isKept : Int32) (t_work : Int32) (t_kind : Int32) (t_letters : Int32) (t_at : Int32) (t_fault : Int32) (t_back : Int32) (t_waits : Int32) (t_miles : Int32) (t_loads : Int32) (t_bestRound : Int32) (t_bestPlace : Int32) (t_bestAdds : Int32) (t_regret : Int32) (t_z : Int32) (t_s : Nat → Int32) (t_image : Nat → Int32) : va_W := [(a_t, ob 8 [.ref a_t_s, .ref a_t_image, .ref a_t_mind, .ref a_t_aside, .int t_isKept, .int t_work, .int t_kind, .ref a_t_text, .ref a_t_read, .int t_letters, .int t_at, .int t_fault, .ref a_t_comes, .ref a_t_begins, .ref a_t_latest, .int t_back, .int t_waits, .int t_miles, .int t_loads, .int t_bestRound, .int t_bestPlace, .int t_bestAdds, .int t_regret, .ref a_t_move, .ref a_t_sort, .ref a_t_items, .ref a_t_cell, .ref a_t_carried, .int t_z]), (a_t_s, aI G 258 t_s), (a_t_image, aI G 258 t_image)]
theorem u_X8_undo_X8_copies_269 {s : State} {args : Array Value} (hts : ∀ w ∈ WU, w.before args s = true) : CallB rm_X8_undo s args RX8 269 yX8_copies cX8_copies 3 none (kw_X8_copies :: WU) rm_X8_copies 0 0 2 ∧ (Cond.static yX8_copies).before args s = true := va_cwS 2 hts (gS qm_8_269 qs_X8_copies qn_8 qc_X8_copies) rfl rfl rfl (by decide +kernel) ⟨Nat.le_of_ble_eq_true rfl, Nat.le_of_ble_eq_true rfl⟩
section
variable {p : Program} {l : Launch} {e : Env} {s : State} {m : MethodId} {args : Array Value} {below : List Frame} {meth : Method} {c : Code} {A : Nat → Prop} {G : GE} {a_t a_t_s a_t_image a_t_mind a_t_aside a_t_text a_t_read a_t_comes a_t_begins a_t_latest a_t_move a_t_sort a_t_items a_t_cell a_t_carried : Nat} {r : Int32} {z_t_s : Nat → Int32}
set_option maxRecDepth 100000 in
set_option maxHeartbeats 4000000 in
theorem c_X8_undo (l : Launch) (G : GE) (a_t a_t_s a_t_image a_t_mind a_t_aside a_t_text a_t_read a_t_comes a_t_begins a_t_latest a_t_move a_t_sort a_t_items a_t_cell a_t_carried : Nat) (t_isKept : Int32) (t_work : Int32) (t_kind : Int32) (t_letters : Int32) (t_at : Int32) (t_fault : Int32) (t_back : Int32) (t_waits : Int32) (t_miles : Int32) (t_loads : Int32) (t_bestRound : Int32) (t_bestPlace : Int32) (t_bestAdds : Int32) (t_regret : Int32) (t_z : Int32) (t_s : Nat → Int32) (t_image : Nat → Int32) (r : Int32) (z_t_s : Nat → Int32) (hf : f_X8_undo t_s t_image t_isKept = some (r, z_t_s)) : CI l G yX8_undo kw_X8_undo rm_X8_undo [.ref a_t] (w_X8_undo G a_t a_t_s a_t_image a_t_mind a_t_aside a_t_text a_t_read a_t_comes a_t_begins a_t_latest a_t_move a_t_sort a_t_items a_t_cell a_t_carried t_isKept t_work t_kind t_letters t_at t_fault t_back t_waits t_miles t_loads t_bestRound t_bestPlace t_bestAdds t_regret t_z t_s t_image) r (w_X8_undo G a_t a_t_s a_t_image a_t_mind a_t_aside a_t_text a_t_read a_t_comes a_t_begins a_t_latest a_t_move a_t_sort a_t_items a_t_cell a_t_carried t_isKept t_work t_kind t_letters t_at t_fault t_back t_waits t_miles t_loads t_bestRound t_bestPlace t_bestAdds t_regret t_z z_t_s t_image) := by
  refine en_I (cc := cX8_undo) (maxL := 1) (ret := (some .int)) (by decide +kernel) (Nat.le_of_ble_eq_true rfl) ?_
  intro p e s m args below meth c A ls C S hl
  have hl : lv_has ls 1 [(0, .ref a_t)] := hl
  have C : Cx p s m args meth c cX8_undo (some .int) 1 RX8 G A := C
  unfold f_X8_undo at hf
  have hx := C.1
  have hb := C.2.1
  have hown := C.2.2.2.2.1
  have hts := C.2.2.2.2.2.1
  have hN := C.2.2.2.2.2.2.2.2.2.2
  refine lv_aload_n (pc := 0) hx hb dX8_undo_0 rfl (lv_at hl 0 rfl) ?_
  refine x_get (pc := 1) (ci := 8) (T := TX8) (v := .int t_isKept) C S 0 rfl rfl inlX8 4 (by decide) rfl qf_8_288 rfl dX8_undo_1 ?_
  refine lv_if_ne (tgt := 10) (pc := 4) hx hb dX8_undo_4 (by decide) (fun c1 => ?_) (fun c1 => ?_)
  · have hf := ifn c1 hf
    refine lv_aload_n (pc := 10) hx hb dX8_undo_10 rfl (lv_at hl 0 rfl) ?_
    refine x_get (pc := 11) (ci := 8) (T := TX8) (v := .ref a_t_image) C S 0 rfl rfl inlX8 1 (by decide) rfl qf_8_15 rfl dX8_undo_11 ?_
    refine lv_aload_n (pc := 14) hx hb dX8_undo_14 rfl (lv_at hl 0 rfl) ?_
    refine x_get (pc := 15) (ci := 8) (T := TX8) (v := .ref a_t_s) C S 0 rfl rfl inlX8 0 (by decide) rfl qf_8_11 rfl dX8_undo_15 ?_
    obtain ⟨o2_t_s, hq2, hf⟩ := bd_e hf
    refine x_sV (pc := 18) (As := [.ref a_t_image, .ref a_t_s]) (rest := []) (isC := [2, 1]) (ws' := (w_X8_undo G a_t a_t_s a_t_image a_t_mind a_t_aside a_t_text a_t_read a_t_comes a_t_begins a_t_latest a_t_move a_t_sort a_t_items a_t_cell a_t_carried t_isKept t_work t_kind t_letters t_at t_fault t_back t_waits t_miles t_loads t_bestRound t_bestPlace t_bestAdds t_regret t_z o2_t_s t_image)) C S (c_X8_copies l G a_t_image a_t_s 258 258 t_image t_s o2_t_s hq2) (u_X8_undo_X8_copies_269 hts) rfl (by decide +kernel) [none, some 1, some 0] (by decide +kernel) rfl rfl rfl hl.1 rfl (Nat.le_of_ble_eq_true rfl) dX8_undo_18 (fun H locs S => ?_)
    refine lv_aload_n (pc := 21) hx hb dX8_undo_21 rfl (lv_at hl 0 rfl) ?_
    refine x_get (pc := 22) (ci := 8) (T := TX8) (v := .ref a_t_s) C S 0 rfl rfl inlX8 0 (by decide) rfl qf_8_11 rfl dX8_undo_22 ?_
    refine lv_iconst (pc := 25) hx hb dX8_undo_25 ic_4 ?_
    refine x_iald (pc := 26) C S 1 rfl (vp_in_iff.mpr (by decide)) dX8_undo_26 ?_
    cases hf
    exact x_iret (pc := 27) C S dX8_undo_27
  · have hf := ifp c1 hf
    refine lv_bipush (pc := 7) hx hb dX8_undo_7 bc_m3 ?_
    cases hf
    exact x_iret (pc := 9) C S dX8_undo_9
end
