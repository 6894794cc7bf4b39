abbrev rm_X7_slide : Room := { frames := 2, cells := 0, slots := 0, locals := 89 }
abbrev kw_X7_slide : Cond := .code yX7_slide cX7_slide 6 (some .int)
abbrev w_X7_slide (G : GE) (a_t a_t_now a_t_kept a_t_thought a_t_draft a_t_filling a_t_moves a_t_text a_t_tapes a_t_tapes_sorts a_t_tapes_sizes a_t_tapes_items : Nat) (t_hasKept : Int32) (t_toldKind : Int32) (t_work : Int32) (t_tapes_sorts : Nat → Int32) (t_tapes_sizes : Nat → Int32) (t_tapes_items : Nat → Int64) : va_W := [(a_t, ob 7 [.ref a_t_now, .ref a_t_kept, .ref a_t_thought, .ref a_t_draft, .ref a_t_filling, .ref a_t_moves, .ref a_t_text, .ref a_t_tapes, .int t_hasKept, .int t_toldKind, .int t_work]), (a_t_tapes, ob 5 [.ref a_t_tapes_sorts, .ref a_t_tapes_sizes, .ref a_t_tapes_items]), (a_t_tapes_sorts, aI G 6 t_tapes_sorts), (a_t_tapes_sizes, aI G 6 t_tapes_sizes), (a_t_tapes_items, aJ G 360 t_tapes_items)]
theorem u_X7_slide_X5_isTape_341 {s : State} {args : Array Value} (hts : ∀ w ∈ WU, w.before args s = true) : CallW rm_X7_slide s args RX7 RX5 341 yX5_isTape cX5_isTape 2 (some .boolean) (kw_X5_isTape :: WU) rm_X5_isTape 0 0 1 := cwV 1 hts (gV qm_7_341 qi_X5_isTape ql_X5_isTape qn_5 qc_X5_isTape) rfl rfl rfl (by decide +kernel) ⟨Nat.le_of_ble_eq_true rfl, Nat.le_of_ble_eq_true rfl⟩
theorem u_X7_slide_X5_sortOf_344 {s : State} {args : Array Value} (hts : ∀ w ∈ WU, w.before args s = true) : CallW rm_X7_slide s args RX7 RX5 344 yX5_sortOf cX5_sortOf 2 (some .int) (kw_X5_sortOf :: WU) rm_X5_sortOf 0 0 1 := cwV 1 hts (gV qm_7_344 qi_X5_sortOf ql_X5_sortOf qn_5 qc_X5_sortOf) rfl rfl rfl (by decide +kernel) ⟨Nat.le_of_ble_eq_true rfl, Nat.le_of_ble_eq_true rfl⟩
theorem u_X7_slide_X5_hasPart_368 {s : State} {args : Array Value} (hts : ∀ w ∈ WU, w.before args s = true) : CallW rm_X7_slide s args RX7 RX5 368 yX5_hasPart cX5_hasPart 4 (some .boolean) (kw_X5_hasPart :: WU) rm_X5_hasPart 0 0 3 := cwV 3 hts (gV qm_7_368 qi_X5_hasPart ql_X5_hasPart qn_5 qc_X5_hasPart) rfl rfl rfl (by decide +kernel) ⟨Nat.le_of_ble_eq_true rfl, Nat.le_of_ble_eq_true rfl⟩
theorem u_X7_slide_X5_copyPart_371 {s : State} {args : Array Value} (hts : ∀ w ∈ WU, w.before args s = true) : CallW rm_X7_slide s args RX7 RX5 371 yX5_copyPart cX5_copyPart 6 none (kw_X5_copyPart :: WU) rm_X5_copyPart 0 0 5 := cwV 5 hts (gV qm_7_371 qi_X5_copyPart ql_X5_copyPart qn_5 qc_X5_copyPart) rfl rfl rfl (by decide +kernel) ⟨Nat.le_of_ble_eq_true rfl, Nat.le_of_ble_eq_true rfl⟩
section
variable {p : Program} {l : Launch} {e : Env} {s : State} {m : MethodId} {args : Array Value} {below : List Frame} {meth : Method} {c : Code} {A : Nat → Prop} {G : GE} {a_t a_t_now a_t_kept a_t_thought a_t_draft a_t_filling a_t_moves a_t_text a_t_tapes a_t_tapes_sorts a_t_tapes_sizes a_t_tapes_items : Nat} {r : Int32} {z_t_tapes_items : Nat → Int64}
set_option maxRecDepth 100000 in
set_option maxHeartbeats 4000000 in
theorem c_X7_slide (l : Launch) (G : GE) (a_t a_t_now a_t_kept a_t_thought a_t_draft a_t_filling a_t_moves a_t_text a_t_tapes a_t_tapes_sorts a_t_tapes_sizes a_t_tapes_items : Nat) (t_hasKept : Int32) (t_toldKind : Int32) (t_work : Int32) (t_tapes_sorts : Nat → Int32) (t_tapes_sizes : Nat → Int32) (t_tapes_items : Nat → Int64) (x1 : Int32) (x2 : Int32) (x3 : Int32) (x4 : Int32) (x5 : Int32) (r : Int32) (z_t_tapes_items : Nat → Int64) (hf : f_X7_slide t_tapes_sorts t_tapes_sizes t_tapes_items x1 x2 x3 x4 x5 = some (r, z_t_tapes_items)) : CI l G yX7_slide kw_X7_slide rm_X7_slide [.ref a_t, .int x1, .int x2, .int x3, .int x4, .int x5] (w_X7_slide G a_t a_t_now a_t_kept a_t_thought a_t_draft a_t_filling a_t_moves a_t_text a_t_tapes a_t_tapes_sorts a_t_tapes_sizes a_t_tapes_items t_hasKept t_toldKind t_work t_tapes_sorts t_tapes_sizes t_tapes_items) r (w_X7_slide G a_t a_t_now a_t_kept a_t_thought a_t_draft a_t_filling a_t_moves a_t_text a_t_tapes a_t_tapes_sorts a_t_tapes_sizes a_t_tapes_items t_hasKept t_toldKind t_work t_tapes_sorts t_tapes_sizes z_t_tapes_items) := by
  refine en_I (cc := cX7_slide) (maxL := 6) (ret := (some .int)) (by decide +kernel) (Nat.le_of_ble_eq_true rfl) ?_
  intro p e s m args below meth c A ls C S hl
  have hl : lv_has ls 6 [(0, .ref a_t), (1, .int x1), (2, .int x2), (3, .int x3), (4, .int x4), (5, .int x5)] := hl
  have C : Cx p s m args meth c cX7_slide (some .int) 6 RX7 G A := C
  unfold f_X7_slide at hf
  have hx := C.1
  have hb := C.2.1
  have hown := C.2.2.2.2.1
  have hts := C.2.2.2.2.2.1
  have hN := C.2.2.2.2.2.2.2.2.2.2
  refine lv_aload_n (pc := 0) hx hb dX7_slide_0 rfl (lv_at hl 0 rfl) ?_
  refine x_get (pc := 1) (ci := 7) (T := TX7) (v := .ref a_t_tapes) C S 0 rfl rfl inlX7 7 (by decide) rfl qf_7_55 rfl dX7_slide_1 ?_
  refine lv_iload_n (pc := 4) hx hb dX7_slide_4 rfl (lv_at hl 1 rfl) ?_
  obtain ⟨r1, hq1, hf⟩ := bd_e hf
  refine x_vI (pc := 5) (As := [.int x1]) (rest := []) (isC := [1]) (ws' := (w_X7_slide G a_t a_t_now a_t_kept a_t_thought a_t_draft a_t_filling a_t_moves a_t_text a_t_tapes a_t_tapes_sorts a_t_tapes_sizes a_t_tapes_items t_hasKept t_toldKind t_work t_tapes_sorts t_tapes_sizes t_tapes_items)) C S (c_X5_isTape l G a_t_tapes a_t_tapes_sorts a_t_tapes_sizes a_t_tapes_items x1 r1 hq1) (u_X7_slide_X5_isTape_341 hts) (ci := 5) rfl 1 rfl rfl rfl rfl rfl rfl hl.1 rfl (Nat.le_of_ble_eq_true rfl) dX7_slide_5 (fun H locs S => ?_)
  refine lv_if_eq (tgt := 22) (pc := 8) hx hb dX7_slide_8 (by decide) (fun c2 => ?_) (fun c2 => ?_)
  · have hf := ifp c2 hf
    refine lv_iconst (pc := 22) hx hb dX7_slide_22 ic_m1 ?_
    cases hf
    exact x_iret (pc := 23) C S dX7_slide_23
  · have hf := ifn c2 hf
    refine lv_aload_n (pc := 11) hx hb dX7_slide_11 rfl (lv_at hl 0 rfl) ?_
    refine x_get (pc := 12) (ci := 7) (T := TX7) (v := .ref a_t_tapes) C S 0 rfl rfl inlX7 7 (by decide) rfl qf_7_55 rfl dX7_slide_12 ?_
    refine lv_iload_n (pc := 15) hx hb dX7_slide_15 rfl (lv_at hl 3 rfl) ?_
    obtain ⟨r3, hq3, hf⟩ := bd_e hf
    refine x_vI (pc := 16) (As := [.int x3]) (rest := []) (isC := [1]) (ws' := (w_X7_slide G a_t a_t_now a_t_kept a_t_thought a_t_draft a_t_filling a_t_moves a_t_text a_t_tapes a_t_tapes_sorts a_t_tapes_sizes a_t_tapes_items t_hasKept t_toldKind t_work t_tapes_sorts t_tapes_sizes t_tapes_items)) C S (c_X5_isTape l G a_t_tapes a_t_tapes_sorts a_t_tapes_sizes a_t_tapes_items x3 r3 hq3) (u_X7_slide_X5_isTape_341 hts) (ci := 5) rfl 1 rfl rfl rfl rfl rfl rfl hl.1 rfl (Nat.le_of_ble_eq_true rfl) dX7_slide_16 (fun H locs S => ?_)
    refine lv_if_ne (tgt := 24) (pc := 19) hx hb dX7_slide_19 (by decide) (fun c4 => ?_) (fun c4 => ?_)
    · have hf := ifn c4 hf
      refine lv_aload_n (pc := 24) hx hb dX7_slide_24 rfl (lv_at hl 0 rfl) ?_
      refine x_get (pc := 25) (ci := 7) (T := TX7) (v := .ref a_t_tapes) C S 0 rfl rfl inlX7 7 (by decide) rfl qf_7_55 rfl dX7_slide_25 ?_
      refine lv_iload_n (pc := 28) hx hb dX7_slide_28 rfl (lv_at hl 1 rfl) ?_
      obtain ⟨r5, hq5, hf⟩ := bd_e hf
      refine x_vI (pc := 29) (As := [.int x1]) (rest := []) (isC := [1, 2]) (ws' := (w_X7_slide G a_t a_t_now a_t_kept a_t_thought a_t_draft a_t_filling a_t_moves a_t_text a_t_tapes a_t_tapes_sorts a_t_tapes_sizes a_t_tapes_items t_hasKept t_toldKind t_work t_tapes_sorts t_tapes_sizes t_tapes_items)) C S (c_X5_sortOf l G a_t_tapes a_t_tapes_sorts a_t_tapes_sizes a_t_tapes_items t_tapes_sorts x1 r5 hq5) (u_X7_slide_X5_sortOf_344 hts) (ci := 5) rfl 1 rfl rfl rfl rfl rfl rfl hl.1 rfl (Nat.le_of_ble_eq_true rfl) dX7_slide_29 (fun H locs S => ?_)
      refine lv_iconst (pc := 32) hx hb dX7_slide_32 ic_m1 ?_
      refine lv_icmp_eq (tgt := 48) (pc := 33) hx hb dX7_slide_33 (by decide) (fun c6 => ?_) (fun c6 => ?_)
      · have hf := ifp c6 hf
        refine lv_bipush (pc := 48) hx hb dX7_slide_48 bc_m11 ?_
        cases hf
        exact x_iret (pc := 50) C S dX7_slide_50
      · have hf := ifn c6 hf
        refine lv_aload_n (pc := 36) hx hb dX7_slide_36 rfl (lv_at hl 0 rfl) ?_
        refine x_get (pc := 37) (ci := 7) (T := TX7) (v := .ref a_t_tapes) C S 0 rfl rfl inlX7 7 (by decide) rfl qf_7_55 rfl dX7_slide_37 ?_
        refine lv_iload_n (pc := 40) hx hb dX7_slide_40 rfl (lv_at hl 3 rfl) ?_
        obtain ⟨r7, hq7, hf⟩ := bd_e hf
        refine x_vI (pc := 41) (As := [.int x3]) (rest := []) (isC := [1, 2]) (ws' := (w_X7_slide G a_t a_t_now a_t_kept a_t_thought a_t_draft a_t_filling a_t_moves a_t_text a_t_tapes a_t_tapes_sorts a_t_tapes_sizes a_t_tapes_items t_hasKept t_toldKind t_work t_tapes_sorts t_tapes_sizes t_tapes_items)) C S (c_X5_sortOf l G a_t_tapes a_t_tapes_sorts a_t_tapes_sizes a_t_tapes_items t_tapes_sorts x3 r7 hq7) (u_X7_slide_X5_sortOf_344 hts) (ci := 5) rfl 1 rfl rfl rfl rfl rfl rfl hl.1 rfl (Nat.le_of_ble_eq_true rfl) dX7_slide_41 (fun H locs S => ?_)
        refine lv_iconst (pc := 44) hx hb dX7_slide_44 ic_m1 ?_
        refine lv_icmp_ne (tgt := 51) (pc := 45) hx hb dX7_slide_45 (by decide) (fun c8 => ?_) (fun c8 => ?_)
        · have hf := ifn c8 hf
          refine lv_aload_n (pc := 51) hx hb dX7_slide_51 rfl (lv_at hl 0 rfl) ?_
          refine x_get (pc := 52) (ci := 7) (T := TX7) (v := .ref a_t_tapes) C S 0 rfl rfl inlX7 7 (by decide) rfl qf_7_55 rfl dX7_slide_52 ?_
          refine lv_iload_n (pc := 55) hx hb dX7_slide_55 rfl (lv_at hl 1 rfl) ?_
          obtain ⟨r9, hq9, hf⟩ := bd_e hf
          refine x_vI (pc := 56) (As := [.int x1]) (rest := []) (isC := [1, 2]) (ws' := (w_X7_slide G a_t a_t_now a_t_kept a_t_thought a_t_draft a_t_filling a_t_moves a_t_text a_t_tapes a_t_tapes_sorts a_t_tapes_sizes a_t_tapes_items t_hasKept t_toldKind t_work t_tapes_sorts t_tapes_sizes t_tapes_items)) C S (c_X5_sortOf l G a_t_tapes a_t_tapes_sorts a_t_tapes_sizes a_t_tapes_items t_tapes_sorts x1 r9 hq9) (u_X7_slide_X5_sortOf_344 hts) (ci := 5) rfl 1 rfl rfl rfl rfl rfl rfl hl.1 rfl (Nat.le_of_ble_eq_true rfl) dX7_slide_56 (fun H locs S => ?_)
          refine lv_aload_n (pc := 59) hx hb dX7_slide_59 rfl (lv_at hl 0 rfl) ?_
          refine x_get (pc := 60) (ci := 7) (T := TX7) (v := .ref a_t_tapes) C S 0 rfl rfl inlX7 7 (by decide) rfl qf_7_55 rfl dX7_slide_60 ?_
          refine lv_iload_n (pc := 63) hx hb dX7_slide_63 rfl (lv_at hl 3 rfl) ?_
          obtain ⟨r10, hq10, hf⟩ := bd_e hf
          refine x_vI (pc := 64) (As := [.int x3]) (rest := [.int r9]) (isC := [1, 2]) (ws' := (w_X7_slide G a_t a_t_now a_t_kept a_t_thought a_t_draft a_t_filling a_t_moves a_t_text a_t_tapes a_t_tapes_sorts a_t_tapes_sizes a_t_tapes_items t_hasKept t_toldKind t_work t_tapes_sorts t_tapes_sizes t_tapes_items)) C S (c_X5_sortOf l G a_t_tapes a_t_tapes_sorts a_t_tapes_sizes a_t_tapes_items t_tapes_sorts x3 r10 hq10) (u_X7_slide_X5_sortOf_344 hts) (ci := 5) rfl 1 rfl rfl rfl rfl rfl rfl hl.1 rfl (Nat.le_of_ble_eq_true rfl) dX7_slide_64 (fun H locs S => ?_)
          refine lv_icmp_eq (tgt := 73) (pc := 67) hx hb dX7_slide_67 (by decide) (fun c11 => ?_) (fun c11 => ?_)
          · have hf := ifp c11 hf
            refine lv_aload_n (pc := 73) hx hb dX7_slide_73 rfl (lv_at hl 0 rfl) ?_
            refine x_get (pc := 74) (ci := 7) (T := TX7) (v := .ref a_t_tapes) C S 0 rfl rfl inlX7 7 (by decide) rfl qf_7_55 rfl dX7_slide_74 ?_
            refine lv_iload_n (pc := 77) hx hb dX7_slide_77 rfl (lv_at hl 1 rfl) ?_
            refine lv_iload_n (pc := 78) hx hb dX7_slide_78 rfl (lv_at hl 2 rfl) ?_
            refine lv_iload (pc := 79) hx hb dX7_slide_79 (lv_at hl 5 rfl) ?_
            obtain ⟨r12, hq12, hf⟩ := bd_e hf
            refine x_vI (pc := 81) (As := [.int x1, .int x2, .int x5]) (rest := []) (isC := [1, 3]) (ws' := (w_X7_slide G a_t a_t_now a_t_kept a_t_thought a_t_draft a_t_filling a_t_moves a_t_text a_t_tapes a_t_tapes_sorts a_t_tapes_sizes a_t_tapes_items t_hasKept t_toldKind t_work t_tapes_sorts t_tapes_sizes t_tapes_items)) C S (c_X5_hasPart l G a_t_tapes a_t_tapes_sorts a_t_tapes_sizes a_t_tapes_items t_tapes_sizes x1 x2 x5 r12 hq12) (u_X7_slide_X5_hasPart_368 hts) (ci := 5) rfl 1 rfl rfl rfl rfl rfl rfl hl.1 rfl (Nat.le_of_ble_eq_true rfl) dX7_slide_81 (fun H locs S => ?_)
            refine lv_if_eq (tgt := 102) (pc := 84) hx hb dX7_slide_84 (by decide) (fun c13 => ?_) (fun c13 => ?_)
            · have hf := ifp c13 hf
              refine lv_bipush (pc := 102) hx hb dX7_slide_102 bc_m13 ?_
              cases hf
              exact x_iret (pc := 104) C S dX7_slide_104
            · have hf := ifn c13 hf
              refine lv_aload_n (pc := 87) hx hb dX7_slide_87 rfl (lv_at hl 0 rfl) ?_
              refine x_get (pc := 88) (ci := 7) (T := TX7) (v := .ref a_t_tapes) C S 0 rfl rfl inlX7 7 (by decide) rfl qf_7_55 rfl dX7_slide_88 ?_
              refine lv_iload_n (pc := 91) hx hb dX7_slide_91 rfl (lv_at hl 3 rfl) ?_
              refine lv_iload (pc := 92) hx hb dX7_slide_92 (lv_at hl 4 rfl) ?_
              refine lv_iload (pc := 94) hx hb dX7_slide_94 (lv_at hl 5 rfl) ?_
              obtain ⟨r14, hq14, hf⟩ := bd_e hf
              refine x_vI (pc := 96) (As := [.int x3, .int x4, .int x5]) (rest := []) (isC := [1, 3]) (ws' := (w_X7_slide G a_t a_t_now a_t_kept a_t_thought a_t_draft a_t_filling a_t_moves a_t_text a_t_tapes a_t_tapes_sorts a_t_tapes_sizes a_t_tapes_items t_hasKept t_toldKind t_work t_tapes_sorts t_tapes_sizes t_tapes_items)) C S (c_X5_hasPart l G a_t_tapes a_t_tapes_sorts a_t_tapes_sizes a_t_tapes_items t_tapes_sizes x3 x4 x5 r14 hq14) (u_X7_slide_X5_hasPart_368 hts) (ci := 5) rfl 1 rfl rfl rfl rfl rfl rfl hl.1 rfl (Nat.le_of_ble_eq_true rfl) dX7_slide_96 (fun H locs S => ?_)
              refine lv_if_ne (tgt := 105) (pc := 99) hx hb dX7_slide_99 (by decide) (fun c15 => ?_) (fun c15 => ?_)
              · have hf := ifn c15 hf
                refine lv_aload_n (pc := 105) hx hb dX7_slide_105 rfl (lv_at hl 0 rfl) ?_
                refine x_get (pc := 106) (ci := 7) (T := TX7) (v := .ref a_t_tapes) C S 0 rfl rfl inlX7 7 (by decide) rfl qf_7_55 rfl dX7_slide_106 ?_
                refine lv_iload_n (pc := 109) hx hb dX7_slide_109 rfl (lv_at hl 1 rfl) ?_
                refine lv_iload_n (pc := 110) hx hb dX7_slide_110 rfl (lv_at hl 2 rfl) ?_
                refine lv_iload_n (pc := 111) hx hb dX7_slide_111 rfl (lv_at hl 3 rfl) ?_
                refine lv_iload (pc := 112) hx hb dX7_slide_112 (lv_at hl 4 rfl) ?_
                refine lv_iload (pc := 114) hx hb dX7_slide_114 (lv_at hl 5 rfl) ?_
                obtain ⟨o16_t_tapes_items, hq16, hf⟩ := bd_e hf
                refine x_vV (pc := 116) (As := [.int x1, .int x2, .int x3, .int x4, .int x5]) (rest := []) (isC := [1, 3, 4]) (ws' := (w_X7_slide G a_t a_t_now a_t_kept a_t_thought a_t_draft a_t_filling a_t_moves a_t_text a_t_tapes a_t_tapes_sorts a_t_tapes_sizes a_t_tapes_items t_hasKept t_toldKind t_work t_tapes_sorts t_tapes_sizes o16_t_tapes_items)) C S (c_X5_copyPart l G a_t_tapes a_t_tapes_sorts a_t_tapes_sizes a_t_tapes_items t_tapes_sizes t_tapes_items x1 x2 x3 x4 x5 o16_t_tapes_items hq16) (u_X7_slide_X5_copyPart_371 hts) (ci := 5) rfl 1 rfl rfl rfl rfl rfl rfl hl.1 rfl (Nat.le_of_ble_eq_true rfl) dX7_slide_116 (fun H locs S => ?_)
                refine lv_iload (pc := 119) hx hb dX7_slide_119 (lv_at hl 5 rfl) ?_
                cases hf
                exact x_iret (pc := 121) C S dX7_slide_121
              · have hf := ifp c15 hf
                refine lv_bipush (pc := 102) hx hb dX7_slide_102 bc_m13 ?_
                cases hf
                exact x_iret (pc := 104) C S dX7_slide_104
          · have hf := ifn c11 hf
            refine lv_bipush (pc := 70) hx hb dX7_slide_70 bc_m12 ?_
            cases hf
            exact x_iret (pc := 72) C S dX7_slide_72
        · have hf := ifp c8 hf
          refine lv_bipush (pc := 48) hx hb dX7_slide_48 bc_m11 ?_
          cases hf
          exact x_iret (pc := 50) C S dX7_slide_50
    · have hf := ifp c4 hf
      refine lv_iconst (pc := 22) hx hb dX7_slide_22 ic_m1 ?_
      cases hf
      exact x_iret (pc := 23) C S dX7_slide_23
end

abbrev rm_X7_stop : Room := { frames := 2, cells := 0, slots := 0, locals := 51 }
abbrev kw_X7_stop : Cond := .code yX7_stop cX7_stop 9 (some .int)
abbrev w_X7_stop (G : GE) (a_t a_t_now a_t_kept a_t_thought a_t_draft a_t_filling a_t_moves a_t_text a_t_tapes a_t_now_facts a_t_now_roundsOf a_t_now_locked a_t_now_rules a_t_now_sizes a_t_now_rows a_t_now_seen a_t_now_plan a_t_now_book : Nat) (t_hasKept : Int32) (t_toldKind : Int32) (t_work : Int32) (t_now_stopCount : Int32) (t_now_metric : Int32) (t_now_fixed : Int32) (t_now_facts : Nat → Int32) (t_now_roundsOf : Nat → Int32) (t_now_locked : Nat → Int32) : va_W := [(a_t, ob 7 [.ref a_t_now, .ref a_t_kept, .ref a_t_thought, .ref a_t_draft, .ref a_t_filling, .ref a_t_moves, .ref a_t_text, .ref a_t_tapes, .int t_hasKept, .int t_toldKind, .int t_work]), (a_t_now, ob 6 [.ref a_t_now_facts, .ref a_t_now_roundsOf, .ref a_t_now_locked, .ref a_t_now_rules, .ref a_t_now_sizes, .ref a_t_now_rows, .ref a_t_now_seen, .ref a_t_now_plan, .ref a_t_now_book, .int t_now_stopCount, .int t_now_metric, .int t_now_fixed]), (a_t_now_facts, aI G 102 t_now_facts), (a_t_now_roundsOf, aI G 16 t_now_roundsOf), (a_t_now_locked, aZ G 16 t_now_locked)]
theorem u_X7_stop_X7_isUpTo_63 {s : State} {args : Array Value} (hts : ∀ w ∈ WU, w.before args s = true) : CallB rm_X7_stop s args RX7 63 yX7_isUpTo cX7_isUpTo 2 (some .boolean) (kw_X7_isUpTo :: WU) rm_X7_isUpTo 0 0 2 ∧ (Cond.static yX7_isUpTo).before args s = true := va_cwS 2 hts (gS qm_7_63 qs_X7_isUpTo qn_7 qc_X7_isUpTo) rfl rfl rfl (by decide +kernel) ⟨Nat.le_of_ble_eq_true rfl, Nat.le_of_ble_eq_true rfl⟩
theorem u_X7_stop_X7_topOf_71 {s : State} {args : Array Value} (hts : ∀ w ∈ WU, w.before args s = true) : CallB rm_X7_stop s args RX7 71 yX7_topOf cX7_topOf 2 (some .int) (kw_X7_topOf :: WU) rm_X7_topOf 0 0 2 ∧ (Cond.static yX7_topOf).before args s = true := va_cwS 2 hts (gS qm_7_71 qs_X7_topOf qn_7 qc_X7_topOf) rfl rfl rfl (by decide +kernel) ⟨Nat.le_of_ble_eq_true rfl, Nat.le_of_ble_eq_true rfl⟩
theorem u_X7_stop_X6_addStop_78 {s : State} {args : Array Value} (hts : ∀ w ∈ WU, w.before args s = true) : CallW rm_X7_stop s args RX7 RX6 78 yX6_addStop cX6_addStop 8 (some .int) (kw_X6_addStop :: WU) rm_X6_addStop 0 0 6 := cwV 6 hts (gV qm_7_78 qi_X6_addStop ql_X6_addStop qn_6 qc_X6_addStop) rfl rfl rfl (by decide +kernel) ⟨Nat.le_of_ble_eq_true rfl, Nat.le_of_ble_eq_true rfl⟩
section
variable {p : Program} {l : Launch} {e : Env} {s : State} {m : MethodId} {args : Array Value} {below : List Frame} {meth : Method} {c : Code} {A : Nat → Prop} {G : GE} {a_t a_t_now a_t_kept a_t_thought a_t_draft a_t_filling a_t_moves a_t_text a_t_tapes a_t_now_facts a_t_now_roundsOf a_t_now_locked a_t_now_rules a_t_now_sizes a_t_now_rows a_t_now_seen a_t_now_plan a_t_now_book : Nat} {r : Int32} {z_t_now_facts : Nat → Int32} {z_t_now_roundsOf : Nat → Int32} {z_t_now_locked : Nat → Int32} {z_t_now_stopCount : Int32}
set_option maxRecDepth 100000 in
set_option maxHeartbeats 4000000 in
theorem k_X7_stop_55 (C : Cx p s m args meth c cX7_stop (some .int) 9 RX7 G A) (t_hasKept : Int32) (t_toldKind : Int32) (t_work : Int32) (t_now_stopCount : Int32) (t_now_metric : Int32) (t_now_fixed : Int32) (t_now_facts : Nat → Int32) (t_now_roundsOf : Nat → Int32) (t_now_locked : Nat → Int32) (x1 : Int32) (x2 : Int32) (x3 : Int32) (x4 : Int32) (x5 : Int32) (x6 : Int32) (x7 : Int32) (y0 : Int32) {H : Heap} {locs : List Loc} {ls : Array Slot} (hf : b_X7_stop_55 x1 x2 x3 x4 x5 x6 x7 y0 t_now_facts t_now_roundsOf t_now_locked t_now_stopCount = some (r, z_t_now_facts, z_t_now_roundsOf, z_t_now_locked, z_t_now_stopCount)) (S : St G A s.heap H locs (w_X7_stop G a_t a_t_now a_t_kept a_t_thought a_t_draft a_t_filling a_t_moves a_t_text a_t_tapes a_t_now_facts a_t_now_roundsOf a_t_now_locked a_t_now_rules a_t_now_sizes a_t_now_rows a_t_now_seen a_t_now_plan a_t_now_book t_hasKept t_toldKind t_work t_now_stopCount t_now_metric t_now_fixed t_now_facts t_now_roundsOf t_now_locked)) (hl : lv_has ls 9 [(0, .ref a_t), (1, .int x1), (2, .int x2), (3, .int x3), (4, .int x4), (5, .int x5), (6, .int x6), (7, .int x7)]) : W p l e rm_X7_stop s m args below meth c H locs 0 0 (QI G below args s A r (w_X7_stop G a_t a_t_now a_t_kept a_t_thought a_t_draft a_t_filling a_t_moves a_t_text a_t_tapes a_t_now_facts a_t_now_roundsOf a_t_now_locked a_t_now_rules a_t_now_sizes a_t_now_rows a_t_now_seen a_t_now_plan a_t_now_book t_hasKept t_toldKind t_work z_t_now_stopCount t_now_metric t_now_fixed z_t_now_facts z_t_now_roundsOf z_t_now_locked)) (F0 m 55 ls [.int y0]) := by
  unfold b_X7_stop_55 at hf
  have hx := C.1
  have hb := C.2.1
  have hown := C.2.2.2.2.1
  have hts := C.2.2.2.2.2.1
  have hN := C.2.2.2.2.2.2.2.2.2.2
  refine lv_istore (pc := 55) (lv' := [(8, .int y0), (0, .ref a_t), (1, .int x1), (2, .int x2), (3, .int x3), (4, .int x4), (5, .int x5), (6, .int x6), (7, .int x7)]) hx hb dX7_stop_55 hl (by decide) rfl (fun ls hl => ?_)
  refine lv_iload (pc := 57) hx hb dX7_stop_57 (lv_at hl 8 rfl) ?_
  refine lv_if_eq (tgt := 96) (pc := 59) hx hb dX7_stop_59 (by decide) (fun c1 => ?_) (fun c1 => ?_)
  · have hf := ifp c1 hf
    refine lv_bipush (pc := 96) hx hb dX7_stop_96 bc_m2 ?_
    cases hf
    exact x_iret (pc := 98) C S dX7_stop_98
  · have hf := ifn c1 hf
    refine lv_iload (pc := 62) hx hb dX7_stop_62 (lv_at hl 0 rfl) ?_
    refine lv_if_eq (tgt := 96) (pc := 64) hx hb dX7_stop_64 (by decide) (fun c2 => ?_) (fun c2 => ?_)
    · have hf := ifp c2 hf
      refine lv_bipush (pc := 96) hx hb dX7_stop_96 bc_m2 ?_
      cases hf
      exact x_iret (pc := 98) C S dX7_stop_98
    · have hf := ifn c2 hf
      refine lv_iload_n (pc := 67) hx hb dX7_stop_67 rfl (lv_at hl 4 rfl) ?_
      refine x_tab (pc := 68) C S 0 (by decide) qf_7_67 dX7_stop_68 ?_
      refine lv_iconst (pc := 71) hx hb dX7_stop_71 ic_2 ?_
      obtain ⟨r3, hq3, hf⟩ := bd_e hf
      refine x_sI (pc := 72) (As := [.ref (tabA G 0), .int (2 : Int32)]) (rest := [.int x3]) (isC := []) (ws' := (w_X7_stop G a_t a_t_now a_t_kept a_t_thought a_t_draft a_t_filling a_t_moves a_t_text a_t_tapes a_t_now_facts a_t_now_roundsOf a_t_now_locked a_t_now_rules a_t_now_sizes a_t_now_rows a_t_now_seen a_t_now_plan a_t_now_book t_hasKept t_toldKind t_work t_now_stopCount t_now_metric t_now_fixed t_now_facts t_now_roundsOf t_now_locked)) C S (c_X7_topOf l G 0 (by decide) (2 : Int32) r3 hq3) (u_X7_stop_X7_topOf_71 hts) rfl rfl rfl rfl rfl hl.1 rfl (Nat.le_of_ble_eq_true rfl) dX7_stop_72 (fun H locs S => ?_)
      obtain ⟨r4, hq4, hf⟩ := bd_e hf
      refine x_sI (pc := 75) (As := [.int x3, .int r3]) (rest := []) (isC := []) (ws' := (w_X7_stop G a_t a_t_now a_t_kept a_t_thought a_t_draft a_t_filling a_t_moves a_t_text a_t_tapes a_t_now_facts a_t_now_roundsOf a_t_now_locked a_t_now_rules a_t_now_sizes a_t_now_rows a_t_now_seen a_t_now_plan a_t_now_book t_hasKept t_toldKind t_work t_now_stopCount t_now_metric t_now_fixed t_now_facts t_now_roundsOf t_now_locked)) C S (c_X7_isUpTo l G x3 r3 r4 hq4) (u_X7_stop_X7_isUpTo_63 hts) rfl rfl rfl rfl rfl hl.1 rfl (Nat.le_of_ble_eq_true rfl) dX7_stop_75 (fun H locs S => ?_)
      refine lv_if_eq (tgt := 96) (pc := 78) hx hb dX7_stop_78 (by decide) (fun c5 => ?_) (fun c5 => ?_)
      · have hf := ifp c5 hf
        refine lv_bipush (pc := 96) hx hb dX7_stop_96 bc_m2 ?_
        cases hf
        exact x_iret (pc := 98) C S dX7_stop_98
      · have hf := ifn c5 hf
        refine lv_iload (pc := 81) hx hb dX7_stop_81 (lv_at hl 7 rfl) ?_
        refine x_tab (pc := 83) C S 0 (by decide) qf_7_67 dX7_stop_83 ?_
        refine lv_iconst (pc := 86) hx hb dX7_stop_86 ic_5 ?_
        obtain ⟨r6, hq6, hf⟩ := bd_e hf
        refine x_sI (pc := 87) (As := [.ref (tabA G 0), .int (5 : Int32)]) (rest := [.int x6]) (isC := []) (ws' := (w_X7_stop G a_t a_t_now a_t_kept a_t_thought a_t_draft a_t_filling a_t_moves a_t_text a_t_tapes a_t_now_facts a_t_now_roundsOf a_t_now_locked a_t_now_rules a_t_now_sizes a_t_now_rows a_t_now_seen a_t_now_plan a_t_now_book t_hasKept t_toldKind t_work t_now_stopCount t_now_metric t_now_fixed t_now_facts t_now_roundsOf t_now_locked)) C S (c_X7_topOf l G 0 (by decide) (5 : Int32) r6 hq6) (u_X7_stop_X7_topOf_71 hts) rfl rfl rfl rfl rfl hl.1 rfl (Nat.le_of_ble_eq_true rfl) dX7_stop_87 (fun H locs S => ?_)
        obtain ⟨r7, hq7, hf⟩ := bd_e hf
        refine x_sI (pc := 90) (As := [.int x6, .int r6]) (rest := []) (isC := []) (ws' := (w_X7_stop G a_t a_t_now a_t_kept a_t_thought a_t_draft a_t_filling a_t_moves a_t_text a_t_tapes a_t_now_facts a_t_now_roundsOf a_t_now_locked a_t_now_rules a_t_now_sizes a_t_now_rows a_t_now_seen a_t_now_plan a_t_now_book t_hasKept t_toldKind t_work t_now_stopCount t_now_metric t_now_fixed t_now_facts t_now_roundsOf t_now_locked)) C S (c_X7_isUpTo l G x6 r6 r7 hq7) (u_X7_stop_X7_isUpTo_63 hts) rfl rfl rfl rfl rfl hl.1 rfl (Nat.le_of_ble_eq_true rfl) dX7_stop_90 (fun H locs S => ?_)
        refine lv_if_ne (tgt := 99) (pc := 93) hx hb dX7_stop_93 (by decide) (fun c8 => ?_) (fun c8 => ?_)
        · have hf := ifn c8 hf
          refine lv_aload_n (pc := 99) hx hb dX7_stop_99 rfl (lv_at hl 1 rfl) ?_
          refine x_get (pc := 100) (ci := 7) (T := TX7) (v := .ref a_t_now) C S 0 rfl rfl inlX7 0 (by decide) rfl qf_7_14 rfl dX7_stop_100 ?_
          refine x_get (pc := 103) (ci := 6) (T := TX6) (v := .int t_now_stopCount) C S 1 rfl rfl inlX6 9 (by decide) rfl qf_7_75 rfl dX7_stop_103 ?_
          refine lv_bipush (pc := 106) hx hb dX7_stop_106 bc_16 ?_
          refine lv_icmp_ge (tgt := 130) (pc := 108) hx hb dX7_stop_108 (by decide) (fun c9 => ?_) (fun c9 => ?_)
          · have hf := ifp c9 hf
            refine lv_bipush (pc := 130) hx hb dX7_stop_130 bc_m4 ?_
            cases hf
            exact x_iret (pc := 132) C S dX7_stop_132
          · have hf := ifn c9 hf
            refine lv_aload_n (pc := 111) hx hb dX7_stop_111 rfl (lv_at hl 1 rfl) ?_
            refine x_get (pc := 112) (ci := 7) (T := TX7) (v := .ref a_t_now) C S 0 rfl rfl inlX7 0 (by decide) rfl qf_7_14 rfl dX7_stop_112 ?_
            refine lv_iload_n (pc := 115) hx hb dX7_stop_115 rfl (lv_at hl 2 rfl) ?_
            refine lv_iload_n (pc := 116) hx hb dX7_stop_116 rfl (lv_at hl 3 rfl) ?_
            refine lv_iload_n (pc := 117) hx hb dX7_stop_117 rfl (lv_at hl 4 rfl) ?_
            refine lv_iload (pc := 118) hx hb dX7_stop_118 (lv_at hl 5 rfl) ?_
            refine lv_iload (pc := 120) hx hb dX7_stop_120 (lv_at hl 6 rfl) ?_
            refine lv_iload (pc := 122) hx hb dX7_stop_122 (lv_at hl 7 rfl) ?_
            obtain ⟨⟨r10, o10_t_now_facts, o10_t_now_roundsOf, o10_t_now_locked, o10_t_now_stopCount⟩, hq10, hf⟩ := bd_e hf
            refine x_vI (pc := 124) (As := [.int x1, .int x2, .int x3, .int x4, .int x5, .int x6]) (rest := []) (isC := [1, 2, 3, 4]) (ws' := (w_X7_stop G a_t a_t_now a_t_kept a_t_thought a_t_draft a_t_filling a_t_moves a_t_text a_t_tapes a_t_now_facts a_t_now_roundsOf a_t_now_locked a_t_now_rules a_t_now_sizes a_t_now_rows a_t_now_seen a_t_now_plan a_t_now_book t_hasKept t_toldKind t_work o10_t_now_stopCount t_now_metric t_now_fixed o10_t_now_facts o10_t_now_roundsOf o10_t_now_locked)) C S (c_X6_addStop l G a_t_now a_t_now_facts a_t_now_roundsOf a_t_now_locked a_t_now_rules a_t_now_sizes a_t_now_rows a_t_now_seen a_t_now_plan a_t_now_book t_now_stopCount t_now_metric t_now_fixed t_now_facts t_now_roundsOf t_now_locked x1 x2 x3 x4 x5 x6 r10 o10_t_now_facts o10_t_now_roundsOf o10_t_now_locked o10_t_now_stopCount hq10) (u_X7_stop_X6_addStop_78 hts) (ci := 6) rfl 1 rfl rfl rfl rfl rfl rfl hl.1 rfl (Nat.le_of_ble_eq_true rfl) dX7_stop_124 (fun H locs S => ?_)
            refine lv_goto (tgt := 132) (pc := 127) hx hb dX7_stop_127 (by decide) ?_
            cases hf
            exact x_iret (pc := 132) C S dX7_stop_132
        · have hf := ifp c8 hf
          refine lv_bipush (pc := 96) hx hb dX7_stop_96 bc_m2 ?_
          cases hf
          exact x_iret (pc := 98) C S dX7_stop_98
set_option maxRecDepth 100000 in
set_option maxHeartbeats 4000000 in
theorem k_X7_stop_54 (C : Cx p s m args meth c cX7_stop (some .int) 9 RX7 G A) (t_hasKept : Int32) (t_toldKind : Int32) (t_work : Int32) (t_now_stopCount : Int32) (t_now_metric : Int32) (t_now_fixed : Int32) (t_now_facts : Nat → Int32) (t_now_roundsOf : Nat → Int32) (t_now_locked : Nat → Int32) (x1 : Int32) (x2 : Int32) (x3 : Int32) (x4 : Int32) (x5 : Int32) (x6 : Int32) (x7 : Int32) {H : Heap} {locs : List Loc} {ls : Array Slot} (hf : b_X7_stop_54 x1 x2 x3 x4 x5 x6 x7 t_now_facts t_now_roundsOf t_now_locked t_now_stopCount = some (r, z_t_now_facts, z_t_now_roundsOf, z_t_now_locked, z_t_now_stopCount)) (S : St G A s.heap H locs (w_X7_stop G a_t a_t_now a_t_kept a_t_thought a_t_draft a_t_filling a_t_moves a_t_text a_t_tapes a_t_now_facts a_t_now_roundsOf a_t_now_locked a_t_now_rules a_t_now_sizes a_t_now_rows a_t_now_seen a_t_now_plan a_t_now_book t_hasKept t_toldKind t_work t_now_stopCount t_now_metric t_now_fixed t_now_facts t_now_roundsOf t_now_locked)) (hl : lv_has ls 9 [(0, .ref a_t), (1, .int x1), (2, .int x2), (3, .int x3), (4, .int x4), (5, .int x5), (6, .int x6), (7, .int x7)]) : W p l e rm_X7_stop s m args below meth c H locs 0 0 (QI G below args s A r (w_X7_stop G a_t a_t_now a_t_kept a_t_thought a_t_draft a_t_filling a_t_moves a_t_text a_t_tapes a_t_now_facts a_t_now_roundsOf a_t_now_locked a_t_now_rules a_t_now_sizes a_t_now_rows a_t_now_seen a_t_now_plan a_t_now_book t_hasKept t_toldKind t_work z_t_now_stopCount t_now_metric t_now_fixed z_t_now_facts z_t_now_roundsOf z_t_now_locked)) (F0 m 54 ls []) := by
  unfold b_X7_stop_54 at hf
  have hx := C.1
  have hb := C.2.1
  have hown := C.2.2.2.2.1
  have hts := C.2.2.2.2.2.1
  have hN := C.2.2.2.2.2.2.2.2.2.2
  refine lv_iconst (pc := 54) hx hb dX7_stop_54 ic_0 ?_
  exact k_X7_stop_55 C (t_hasKept) (t_toldKind) (t_work) (t_now_stopCount) (t_now_metric) (t_now_fixed) (t_now_facts) (t_now_roundsOf) (t_now_locked) (x1) (x2) (x3) (x4) (x5) (x6) (x7) ((0 : Int32)) hf S (lv_sub hl [0, 1, 2, 3, 4, 5, 6, 7] rfl)
set_option maxRecDepth 100000 in
set_option maxHeartbeats 4000000 in
theorem k_X7_stop_23 (C : Cx p s m args meth c cX7_stop (some .int) 9 RX7 G A) (t_hasKept : Int32) (t_toldKind : Int32) (t_work : Int32) (t_now_stopCount : Int32) (t_now_metric : Int32) (t_now_fixed : Int32) (t_now_facts : Nat → Int32) (t_now_roundsOf : Nat → Int32) (t_now_locked : Nat → Int32) (x1 : Int32) (x2 : Int32) (x3 : Int32) (x4 : Int32) (x5 : Int32) (x6 : Int32) (y0 : Int32) {H : Heap} {locs : List Loc} {ls : Array Slot} (hf : b_X7_stop_23 x1 x2 x3 x4 x5 x6 y0 t_now_facts t_now_roundsOf t_now_locked t_now_stopCount = some (r, z_t_now_facts, z_t_now_roundsOf, z_t_now_locked, z_t_now_stopCount)) (S : St G A s.heap H locs (w_X7_stop G a_t a_t_now a_t_kept a_t_thought a_t_draft a_t_filling a_t_moves a_t_text a_t_tapes a_t_now_facts a_t_now_roundsOf a_t_now_locked a_t_now_rules a_t_now_sizes a_t_now_rows a_t_now_seen a_t_now_plan a_t_now_book t_hasKept t_toldKind t_work t_now_stopCount t_now_metric t_now_fixed t_now_facts t_now_roundsOf t_now_locked)) (hl : lv_has ls 9 [(0, .ref a_t), (1, .int x1), (2, .int x2), (3, .int x3), (4, .int x4), (5, .int x5), (6, .int x6)]) : W p l e rm_X7_stop s m args below meth c H locs 0 0 (QI G below args s A r (w_X7_stop G a_t a_t_now a_t_kept a_t_thought a_t_draft a_t_filling a_t_moves a_t_text a_t_tapes a_t_now_facts a_t_now_roundsOf a_t_now_locked a_t_now_rules a_t_now_sizes a_t_now_rows a_t_now_seen a_t_now_plan a_t_now_book t_hasKept t_toldKind t_work z_t_now_stopCount t_now_metric t_now_fixed z_t_now_facts z_t_now_roundsOf z_t_now_locked)) (F0 m 23 ls [.int y0]) := by
  unfold b_X7_stop_23 at hf
  have hx := C.1
  have hb := C.2.1
  have hown := C.2.2.2.2.1
  have hts := C.2.2.2.2.2.1
  have hN := C.2.2.2.2.2.2.2.2.2.2
  refine lv_istore (pc := 23) (lv' := [(7, .int y0), (0, .ref a_t), (1, .int x1), (2, .int x2), (3, .int x3), (4, .int x4), (5, .int x5), (6, .int x6)]) hx hb dX7_stop_23 hl (by decide) rfl (fun ls hl => ?_)
  refine lv_iload (pc := 25) hx hb dX7_stop_25 (lv_at hl 6 rfl) ?_
  refine x_tab (pc := 27) C S 0 (by decide) qf_7_67 dX7_stop_27 ?_
  refine lv_iconst (pc := 30) hx hb dX7_stop_30 ic_4 ?_
  obtain ⟨r1, hq1, hf⟩ := bd_e hf
  refine x_sI (pc := 31) (As := [.ref (tabA G 0), .int (4 : Int32)]) (rest := [.int x5]) (isC := []) (ws' := (w_X7_stop G a_t a_t_now a_t_kept a_t_thought a_t_draft a_t_filling a_t_moves a_t_text a_t_tapes a_t_now_facts a_t_now_roundsOf a_t_now_locked a_t_now_rules a_t_now_sizes a_t_now_rows a_t_now_seen a_t_now_plan a_t_now_book t_hasKept t_toldKind t_work t_now_stopCount t_now_metric t_now_fixed t_now_facts t_now_roundsOf t_now_locked)) C S (c_X7_topOf l G 0 (by decide) (4 : Int32) r1 hq1) (u_X7_stop_X7_topOf_71 hts) rfl rfl rfl rfl rfl hl.1 rfl (Nat.le_of_ble_eq_true rfl) dX7_stop_31 (fun H locs S => ?_)
  obtain ⟨r2, hq2, hf⟩ := bd_e hf
  refine x_sI (pc := 34) (As := [.int x5, .int r1]) (rest := []) (isC := []) (ws' := (w_X7_stop G a_t a_t_now a_t_kept a_t_thought a_t_draft a_t_filling a_t_moves a_t_text a_t_tapes a_t_now_facts a_t_now_roundsOf a_t_now_locked a_t_now_rules a_t_now_sizes a_t_now_rows a_t_now_seen a_t_now_plan a_t_now_book t_hasKept t_toldKind t_work t_now_stopCount t_now_metric t_now_fixed t_now_facts t_now_roundsOf t_now_locked)) C S (c_X7_isUpTo l G x5 r1 r2 hq2) (u_X7_stop_X7_isUpTo_63 hts) rfl rfl rfl rfl rfl hl.1 rfl (Nat.le_of_ble_eq_true rfl) dX7_stop_34 (fun H locs S => ?_)
  refine lv_if_eq (tgt := 54) (pc := 37) hx hb dX7_stop_37 (by decide) (fun c3 => ?_) (fun c3 => ?_)
  · have hf := ifp c3 hf
    exact k_X7_stop_54 C (t_hasKept) (t_toldKind) (t_work) (t_now_stopCount) (t_now_metric) (t_now_fixed) (t_now_facts) (t_now_roundsOf) (t_now_locked) (x1) (x2) (x3) (x4) (x5) (x6) (y0) hf S (lv_sub hl [1, 2, 3, 4, 5, 6, 7, 0] rfl)
  · have hf := ifn c3 hf
    refine lv_iload (pc := 40) hx hb dX7_stop_40 (lv_at hl 5 rfl) ?_
    refine lv_iload (pc := 42) hx hb dX7_stop_42 (lv_at hl 6 rfl) ?_
    obtain ⟨r4, hq4, hf⟩ := bd_e hf
    refine x_sI (pc := 44) (As := [.int x4, .int x5]) (rest := []) (isC := []) (ws' := (w_X7_stop G a_t a_t_now a_t_kept a_t_thought a_t_draft a_t_filling a_t_moves a_t_text a_t_tapes a_t_now_facts a_t_now_roundsOf a_t_now_locked a_t_now_rules a_t_now_sizes a_t_now_rows a_t_now_seen a_t_now_plan a_t_now_book t_hasKept t_toldKind t_work t_now_stopCount t_now_metric t_now_fixed t_now_facts t_now_roundsOf t_now_locked)) C S (c_X7_isUpTo l G x4 x5 r4 hq4) (u_X7_stop_X7_isUpTo_63 hts) rfl rfl rfl rfl rfl hl.1 rfl (Nat.le_of_ble_eq_true rfl) dX7_stop_44 (fun H locs S => ?_)
    refine lv_if_eq (tgt := 54) (pc := 47) hx hb dX7_stop_47 (by decide) (fun c5 => ?_) (fun c5 => ?_)
    · have hf := ifp c5 hf
      exact k_X7_stop_54 C (t_hasKept) (t_toldKind) (t_work) (t_now_stopCount) (t_now_metric) (t_now_fixed) (t_now_facts) (t_now_roundsOf) (t_now_locked) (x1) (x2) (x3) (x4) (x5) (x6) (y0) hf S (lv_sub hl [1, 2, 3, 4, 5, 6, 7, 0] rfl)
    · have hf := ifn c5 hf
      refine lv_iconst (pc := 50) hx hb dX7_stop_50 ic_1 ?_
      refine lv_goto (tgt := 55) (pc := 51) hx hb dX7_stop_51 (by decide) ?_
      exact k_X7_stop_55 C (t_hasKept) (t_toldKind) (t_work) (t_now_stopCount) (t_now_metric) (t_now_fixed) (t_now_facts) (t_now_roundsOf) (t_now_locked) (x1) (x2) (x3) (x4) (x5) (x6) (y0) ((1 : Int32)) hf S (lv_sub hl [1, 2, 3, 4, 5, 6, 7, 0] rfl)
set_option maxRecDepth 100000 in
set_option maxHeartbeats 4000000 in
theorem k_X7_stop_22 (C : Cx p s m args meth c cX7_stop (some .int) 9 RX7 G A) (t_hasKept : Int32) (t_toldKind : Int32) (t_work : Int32) (t_now_stopCount : Int32) (t_now_metric : Int32) (t_now_fixed : Int32) (t_now_facts : Nat → Int32) (t_now_roundsOf : Nat → Int32) (t_now_locked : Nat → Int32) (x1 : Int32) (x2 : Int32) (x3 : Int32) (x4 : Int32) (x5 : Int32) (x6 : Int32) {H : Heap} {locs : List Loc} {ls : Array Slot} (hf : b_X7_stop_22 x1 x2 x3 x4 x5 x6 t_now_facts t_now_roundsOf t_now_locked t_now_stopCount = some (r, z_t_now_facts, z_t_now_roundsOf, z_t_now_locked, z_t_now_stopCount)) (S : St G A s.heap H locs (w_X7_stop G a_t a_t_now a_t_kept a_t_thought a_t_draft a_t_filling a_t_moves a_t_text a_t_tapes a_t_now_facts a_t_now_roundsOf a_t_now_locked a_t_now_rules a_t_now_sizes a_t_now_rows a_t_now_seen a_t_now_plan a_t_now_book t_hasKept t_toldKind t_work t_now_stopCount t_now_metric t_now_fixed t_now_facts t_now_roundsOf t_now_locked)) (hl : lv_has ls 9 [(0, .ref a_t), (1, .int x1), (2, .int x2), (3, .int x3), (4, .int x4), (5, .int x5), (6, .int x6)]) : W p l e rm_X7_stop s m args below meth c H locs 0 0 (QI G below args s A r (w_X7_stop G a_t a_t_now a_t_kept a_t_thought a_t_draft a_t_filling a_t_moves a_t_text a_t_tapes a_t_now_facts a_t_now_roundsOf a_t_now_locked a_t_now_rules a_t_now_sizes a_t_now_rows a_t_now_seen a_t_now_plan a_t_now_book t_hasKept t_toldKind t_work z_t_now_stopCount t_now_metric t_now_fixed z_t_now_facts z_t_now_roundsOf z_t_now_locked)) (F0 m 22 ls []) := by
  unfold b_X7_stop_22 at hf
  have hx := C.1
  have hb := C.2.1
  have hown := C.2.2.2.2.1
  have hts := C.2.2.2.2.2.1
  have hN := C.2.2.2.2.2.2.2.2.2.2
  refine lv_iconst (pc := 22) hx hb dX7_stop_22 ic_0 ?_
  exact k_X7_stop_23 C (t_hasKept) (t_toldKind) (t_work) (t_now_stopCount) (t_now_metric) (t_now_fixed) (t_now_facts) (t_now_roundsOf) (t_now_locked) (x1) (x2) (x3) (x4) (x5) (x6) ((0 : Int32)) hf S (lv_sub hl [0, 1, 2, 3, 4, 5, 6] rfl)
set_option maxRecDepth 100000 in
set_option maxHeartbeats 4000000 in
theorem c_X7_stop (l : Launch) (G : GE) (a_t a_t_now a_t_kept a_t_thought a_t_draft a_t_filling a_t_moves a_t_text a_t_tapes a_t_now_facts a_t_now_roundsOf a_t_now_locked a_t_now_rules a_t_now_sizes a_t_now_rows a_t_now_seen a_t_now_plan a_t_now_book : Nat) (t_hasKept : Int32) (t_toldKind : Int32) (t_work : Int32) (t_now_stopCount : Int32) (t_now_metric : Int32) (t_now_fixed : Int32) (t_now_facts : Nat → Int32) (t_now_roundsOf : Nat → Int32) (t_now_locked : Nat → Int32) (x1 : Int32) (x2 : Int32) (x3 : Int32) (x4 : Int32) (x5 : Int32) (x6 : Int32) (r : Int32) (z_t_now_facts : Nat → Int32) (z_t_now_roundsOf : Nat → Int32) (z_t_now_locked : Nat → Int32) (z_t_now_stopCount : Int32) (hf : f_X7_stop t_now_facts t_now_roundsOf t_now_locked t_now_stopCount x1 x2 x3 x4 x5 x6 = some (r, z_t_now_facts, z_t_now_roundsOf, z_t_now_locked, z_t_now_stopCount)) : CI l G yX7_stop kw_X7_stop rm_X7_stop [.ref a_t, .int x1, .int x2, .int x3, .int x4, .int x5, .int x6] (w_X7_stop G a_t a_t_now a_t_kept a_t_thought a_t_draft a_t_filling a_t_moves a_t_text a_t_tapes a_t_now_facts a_t_now_roundsOf a_t_now_locked a_t_now_rules a_t_now_sizes a_t_now_rows a_t_now_seen a_t_now_plan a_t_now_book t_hasKept t_toldKind t_work t_now_stopCount t_now_metric t_now_fixed t_now_facts t_now_roundsOf t_now_locked) r (w_X7_stop G a_t a_t_now a_t_kept a_t_thought a_t_draft a_t_filling a_t_moves a_t_text a_t_tapes a_t_now_facts a_t_now_roundsOf a_t_now_locked a_t_now_rules a_t_now_sizes a_t_now_rows a_t_now_seen a_t_now_plan a_t_now_book t_hasKept t_toldKind t_work z_t_now_stopCount t_now_metric t_now_fixed z_t_now_facts z_t_now_roundsOf z_t_now_locked) := by
  refine en_I (cc := cX7_stop) (maxL := 9) (ret := (some .int)) (by decide +kernel) (Nat.le_of_ble_eq_true rfl) ?_
  intro p e s m args below meth c A ls C S hl
  have hl : lv_has ls 9 [(0, .ref a_t), (1, .int x1), (2, .int x2), (3, .int x3), (4, .int x4), (5, .int x5), (6, .int x6)] := hl
  have C : Cx p s m args meth c cX7_stop (some .int) 9 RX7 G A := C
  unfold f_X7_stop at hf
  have hx := C.1
  have hb := C.2.1
  have hown := C.2.2.2.2.1
  have hts := C.2.2.2.2.2.1
  have hN := C.2.2.2.2.2.2.2.2.2.2
  refine lv_iload_n (pc := 0) hx hb dX7_stop_0 rfl (lv_at hl 1 rfl) ?_
  refine lv_bipush (pc := 1) hx hb dX7_stop_1 bc_63 ?_
  obtain ⟨r1, hq1, hf⟩ := bd_e hf
  refine x_sI (pc := 3) (As := [.int x1, .int (63 : Int32)]) (rest := []) (isC := []) (ws' := (w_X7_stop G a_t a_t_now a_t_kept a_t_thought a_t_draft a_t_filling a_t_moves a_t_text a_t_tapes a_t_now_facts a_t_now_roundsOf a_t_now_locked a_t_now_rules a_t_now_sizes a_t_now_rows a_t_now_seen a_t_now_plan a_t_now_book t_hasKept t_toldKind t_work t_now_stopCount t_now_metric t_now_fixed t_now_facts t_now_roundsOf t_now_locked)) C S (c_X7_isUpTo l G x1 (63 : Int32) r1 hq1) (u_X7_stop_X7_isUpTo_63 hts) rfl rfl rfl rfl rfl hl.1 rfl (Nat.le_of_ble_eq_true rfl) dX7_stop_3 (fun H locs S => ?_)
  refine lv_if_eq (tgt := 22) (pc := 6) hx hb dX7_stop_6 (by decide) (fun c2 => ?_) (fun c2 => ?_)
  · have hf := ifp c2 hf
    exact k_X7_stop_22 C (t_hasKept) (t_toldKind) (t_work) (t_now_stopCount) (t_now_metric) (t_now_fixed) (t_now_facts) (t_now_roundsOf) (t_now_locked) (x1) (x2) (x3) (x4) (x5) (x6) hf S (lv_sub hl [0, 1, 2, 3, 4, 5, 6] rfl)
  · have hf := ifn c2 hf
    refine lv_iload_n (pc := 9) hx hb dX7_stop_9 rfl (lv_at hl 2 rfl) ?_
    refine lv_bipush (pc := 10) hx hb dX7_stop_10 bc_63 ?_
    obtain ⟨r3, hq3, hf⟩ := bd_e hf
    refine x_sI (pc := 12) (As := [.int x2, .int (63 : Int32)]) (rest := []) (isC := []) (ws' := (w_X7_stop G a_t a_t_now a_t_kept a_t_thought a_t_draft a_t_filling a_t_moves a_t_text a_t_tapes a_t_now_facts a_t_now_roundsOf a_t_now_locked a_t_now_rules a_t_now_sizes a_t_now_rows a_t_now_seen a_t_now_plan a_t_now_book t_hasKept t_toldKind t_work t_now_stopCount t_now_metric t_now_fixed t_now_facts t_now_roundsOf t_now_locked)) C S (c_X7_isUpTo l G x2 (63 : Int32) r3 hq3) (u_X7_stop_X7_isUpTo_63 hts) rfl rfl rfl rfl rfl hl.1 rfl (Nat.le_of_ble_eq_true rfl) dX7_stop_12 (fun H locs S => ?_)
    refine lv_if_eq (tgt := 22) (pc := 15) hx hb dX7_stop_15 (by decide) (fun c4 => ?_) (fun c4 => ?_)
    · have hf := ifp c4 hf
      exact k_X7_stop_22 C (t_hasKept) (t_toldKind) (t_work) (t_now_stopCount) (t_now_metric) (t_now_fixed) (t_now_facts) (t_now_roundsOf) (t_now_locked) (x1) (x2) (x3) (x4) (x5) (x6) hf S (lv_sub hl [0, 1, 2, 3, 4, 5, 6] rfl)
    · have hf := ifn c4 hf
      refine lv_iconst (pc := 18) hx hb dX7_stop_18 ic_1 ?_
      refine lv_goto (tgt := 23) (pc := 19) hx hb dX7_stop_19 (by decide) ?_
      exact k_X7_stop_23 C (t_hasKept) (t_toldKind) (t_work) (t_now_stopCount) (t_now_metric) (t_now_fixed) (t_now_facts) (t_now_roundsOf) (t_now_locked) (x1) (x2) (x3) (x4) (x5) (x6) ((1 : Int32)) hf S (lv_sub hl [0, 1, 2, 3, 4, 5, 6] rfl)
end

abbrev rm_X7_swap : Room := { frames := 4, cells := 0, slots := 0, locals := 104 }
abbrev kw_X7_swap : Cond := .code yX7_swap cX7_swap 3 (some .int)
abbrev w_X7_swap (G : GE) (a_t a_t_now a_t_kept a_t_thought a_t_draft a_t_filling a_t_moves a_t_text a_t_tapes a_t_now_facts a_t_now_roundsOf a_t_now_locked a_t_now_rules a_t_now_sizes a_t_now_rows a_t_now_seen a_t_now_plan a_t_now_book a_t_moves_one a_t_moves_other a_t_moves_one_row a_t_moves_one_comes a_t_moves_one_begins a_t_moves_one_slacks a_t_moves_other_row a_t_moves_other_comes a_t_moves_other_begins a_t_moves_other_slacks : Nat) (t_hasKept : Int32) (t_toldKind : Int32) (t_work : Int32) (t_now_stopCount : Int32) (t_now_metric : Int32) (t_now_fixed : Int32) (t_now_facts : Nat → Int32) (t_now_roundsOf : Nat → Int32) (t_now_locked : Nat → Int32) (t_now_rules : Nat → Int32) (t_now_sizes : Nat → Int32) (t_now_rows : Nat → Int32) (t_moves_isOfTwo : Int32) (t_moves_kind : Int32) (t_moves_gain : Int32) (t_moves_a : Int32) (t_moves_b : Int32) (t_moves_c : Int32) (t_moves_one_round : Int32) (t_moves_one_size : Int32) (t_moves_one_back : Int32) (t_moves_one_loads : Int32) (t_moves_one_miles : Int32) (t_moves_one_waits : Int32) (t_moves_one_lateAt : Int32) (t_moves_one_later : Int32) (t_moves_one_row : Nat → Int32) (t_moves_one_comes : Nat → Int32) (t_moves_one_begins : Nat → Int32) (t_moves_other_round : Int32) (t_moves_other_size : Int32) (t_moves_other_back : Int32) (t_moves_other_loads : Int32) (t_moves_other_miles : Int32) (t_moves_other_waits : Int32) (t_moves_other_lateAt : Int32) (t_moves_other_later : Int32) (t_moves_other_row : Nat → Int32) (t_moves_other_comes : Nat → Int32) (t_moves_other_begins : Nat → Int32) : va_W := [(a_t, ob 7 [.ref a_t_now, .ref a_t_kept, .ref a_t_thought, .ref a_t_draft, .ref a_t_filling, .ref a_t_moves, .ref a_t_text, .ref a_t_tapes, .int t_hasKept, .int t_toldKind, .int t_work]), (a_t_now, ob 6 [.ref a_t_now_facts, .ref a_t_now_roundsOf, .ref a_t_now_locked, .ref a_t_now_rules, .ref a_t_now_sizes, .ref a_t_now_rows, .ref a_t_now_seen, .ref a_t_now_plan, .ref a_t_now_book, .int t_now_stopCount, .int t_now_metric, .int t_now_fixed]), (a_t_now_facts, aI G 102 t_now_facts), (a_t_now_roundsOf, aI G 16 t_now_roundsOf), (a_t_now_locked, aZ G 16 t_now_locked), (a_t_now_rules, aI G 12 t_now_rules), (a_t_now_sizes, aI G 4 t_now_sizes), (a_t_now_rows, aI G 64 t_now_rows), (a_t_moves, ob 2 [.ref a_t_moves_one, .ref a_t_moves_other, .int t_moves_isOfTwo, .int t_moves_kind, .int t_moves_gain, .int t_moves_a, .int t_moves_b, .int t_moves_c]), (a_t_moves_one, ob 0 [.ref a_t_moves_one_row, .ref a_t_moves_one_comes, .ref a_t_moves_one_begins, .ref a_t_moves_one_slacks, .int t_moves_one_round, .int t_moves_one_size, .int t_moves_one_back, .int t_moves_one_loads, .int t_moves_one_miles, .int t_moves_one_waits, .int t_moves_one_lateAt, .int t_moves_one_later]), (a_t_moves_one_row, aI G 16 t_moves_one_row), (a_t_moves_one_comes, aI G 16 t_moves_one_comes), (a_t_moves_one_begins, aI G 16 t_moves_one_begins), (a_t_moves_other, ob 0 [.ref a_t_moves_other_row, .ref a_t_moves_other_comes, .ref a_t_moves_other_begins, .ref a_t_moves_other_slacks, .int t_moves_other_round, .int t_moves_other_size, .int t_moves_other_back, .int t_moves_other_loads, .int t_moves_other_miles, .int t_moves_other_waits, .int t_moves_other_lateAt, .int t_moves_other_later]), (a_t_moves_other_row, aI G 16 t_moves_other_row), (a_t_moves_other_comes, aI G 16 t_moves_other_comes), (a_t_moves_other_begins, aI G 16 t_moves_other_begins)]
theorem u_X7_swap_X6_isStop_100 {s : State} {args : Array Value} (hts : ∀ w ∈ WU, w.before args s = true) : CallW rm_X7_swap s args RX7 RX6 100 yX6_isStop cX6_isStop 2 (some .boolean) (kw_X6_isStop :: WU) rm_X6_isStop 0 0 1 := cwV 1 hts (gV qm_7_100 qi_X6_isStop ql_X6_isStop qn_6 qc_X6_isStop) rfl rfl rfl (by decide +kernel) ⟨Nat.le_of_ble_eq_true rfl, Nat.le_of_ble_eq_true rfl⟩
theorem u_X7_swap_X6_roundOf_115 {s : State} {args : Array Value} (hts : ∀ w ∈ WU, w.before args s = true) : CallW rm_X7_swap s args RX7 RX6 115 yX6_roundOf cX6_roundOf 2 (some .int) (kw_X6_roundOf :: WU) rm_X6_roundOf 0 0 1 := cwV 1 hts (gV qm_7_115 qi_X6_roundOf ql_X6_roundOf qn_6 qc_X6_roundOf) rfl rfl rfl (by decide +kernel) ⟨Nat.le_of_ble_eq_true rfl, Nat.le_of_ble_eq_true rfl⟩
theorem u_X7_swap_X2_trySwap_288 {s : State} {args : Array Value} (hts : ∀ w ∈ WU, w.before args s = true) : CallW rm_X7_swap s args RX7 RX2 288 yX2_trySwap cX2_trySwap 5 (some .boolean) (kw_X2_trySwap :: WU) rm_X2_trySwap 0 0 3 := cwV 3 hts (gV qm_7_288 qi_X2_trySwap ql_X2_trySwap qn_2 qc_X2_trySwap) rfl rfl rfl (by decide +kernel) ⟨Nat.le_of_ble_eq_true rfl, Nat.le_of_ble_eq_true rfl⟩
theorem u_X7_swap_X2_swapGain_292 {s : State} {args : Array Value} (hts : ∀ w ∈ WU, w.before args s = true) : CallW rm_X7_swap s args RX7 RX2 292 yX2_swapGain cX2_swapGain 7 (some .int) (kw_X2_swapGain :: WU) rm_X2_swapGain 0 0 3 := cwV 3 hts (gV qm_7_292 qi_X2_swapGain ql_X2_swapGain qn_2 qc_X2_swapGain) rfl rfl rfl (by decide +kernel) ⟨Nat.le_of_ble_eq_true rfl, Nat.le_of_ble_eq_true rfl⟩
section
variable {p : Program} {l : Launch} {e : Env} {s : State} {m : MethodId} {args : Array Value} {below : List Frame} {meth : Method} {c : Code} {A : Nat → Prop} {G : GE} {a_t a_t_now a_t_kept a_t_thought a_t_draft a_t_filling a_t_moves a_t_text a_t_tapes a_t_now_facts a_t_now_roundsOf a_t_now_locked a_t_now_rules a_t_now_sizes a_t_now_rows a_t_now_seen a_t_now_plan a_t_now_book a_t_moves_one a_t_moves_other a_t_moves_one_row a_t_moves_one_comes a_t_moves_one_begins a_t_moves_one_slacks a_t_moves_other_row a_t_moves_other_comes a_t_moves_other_begins a_t_moves_other_slacks : Nat} {r : Int32} {z_t_moves_one_row : Nat → Int32} {z_t_moves_one_comes : Nat → Int32} {z_t_moves_one_begins : Nat → Int32} {z_t_moves_one_round : Int32} {z_t_moves_one_size : Int32} {z_t_moves_one_back : Int32} {z_t_moves_one_loads : Int32} {z_t_moves_one_miles : Int32} {z_t_moves_one_waits : Int32} {z_t_moves_one_lateAt : Int32} {z_t_moves_other_row : Nat → Int32} {z_t_moves_other_comes : Nat → Int32} {z_t_moves_other_begins : Nat → Int32} {z_t_moves_other_round : Int32} {z_t_moves_other_size : Int32} {z_t_moves_other_back : Int32} {z_t_moves_other_loads : Int32} {z_t_moves_other_miles : Int32} {z_t_moves_other_waits : Int32} {z_t_moves_other_lateAt : Int32} {z_t_moves_isOfTwo : Int32}
set_option maxRecDepth 100000 in
set_option maxHeartbeats 4000000 in
theorem c_X7_swap (l : Launch) (G : GE) (a_t a_t_now a_t_kept a_t_thought a_t_draft a_t_filling a_t_moves a_t_text a_t_tapes a_t_now_facts a_t_now_roundsOf a_t_now_locked a_t_now_rules a_t_now_sizes a_t_now_rows a_t_now_seen a_t_now_plan a_t_now_book a_t_moves_one a_t_moves_other a_t_moves_one_row a_t_moves_one_comes a_t_moves_one_begins a_t_moves_one_slacks a_t_moves_other_row a_t_moves_other_comes a_t_moves_other_begins a_t_moves_other_slacks : Nat) (t_hasKept : Int32) (t_toldKind : Int32) (t_work : Int32) (t_now_stopCount : Int32) (t_now_metric : Int32) (t_now_fixed : Int32) (t_now_facts : Nat → Int32) (t_now_roundsOf : Nat → Int32) (t_now_locked : Nat → Int32) (t_now_rules : Nat → Int32) (t_now_sizes : Nat → Int32) (t_now_rows : Nat → Int32) (t_moves_isOfTwo : Int32) (t_moves_kind : Int32) (t_moves_gain : Int32) (t_moves_a : Int32) (t_moves_b : Int32) (t_moves_c : Int32) (t_moves_one_round : Int32) (t_moves_one_size : Int32) (t_moves_one_back : Int32) (t_moves_one_loads : Int32) (t_moves_one_miles : Int32) (t_moves_one_waits : Int32) (t_moves_one_lateAt : Int32) (t_moves_one_later : Int32) (t_moves_one_row : Nat → Int32) (t_moves_one_comes : Nat → Int32) (t_moves_one_begins : Nat → Int32) (t_moves_other_round : Int32) (t_moves_other_size : Int32) (t_moves_other_back : Int32) (t_moves_other_loads : Int32) (t_moves_other_miles : Int32) (t_moves_other_waits : Int32) (t_moves_other_lateAt : Int32) (t_moves_other_later : Int32) (t_moves_other_row : Nat → Int32) (t_moves_other_comes : Nat → Int32) (t_moves_other_begins : Nat → Int32) (x1 : Int32) (x2 : Int32) (r : Int32) (z_t_moves_one_row : Nat → Int32) (z_t_moves_one_comes : Nat → Int32) (z_t_moves_one_begins : Nat → Int32) (z_t_moves_one_round : Int32) (z_t_moves_one_size : Int32) (z_t_moves_one_back : Int32) (z_t_moves_one_loads : Int32) (z_t_moves_one_miles : Int32) (z_t_moves_one_waits : Int32) (z_t_moves_one_lateAt : Int32) (z_t_moves_other_row : Nat → Int32) (z_t_moves_other_comes : Nat → Int32) (z_t_moves_other_begins : Nat → Int32) (z_t_moves_other_round : Int32) (z_t_moves_other_size : Int32) (z_t_moves_other_back : Int32) (z_t_moves_other_loads : Int32) (z_t_moves_other_miles : Int32) (z_t_moves_other_waits : Int32) (z_t_moves_other_lateAt : Int32) (z_t_moves_isOfTwo : Int32) (hf : f_X7_swap t_now_facts t_now_roundsOf t_now_locked t_now_rules t_now_sizes t_now_rows t_now_stopCount t_now_metric t_moves_one_row t_moves_one_comes t_moves_one_begins t_moves_one_round t_moves_one_size t_moves_one_back t_moves_one_loads t_moves_one_miles t_moves_one_waits t_moves_one_lateAt t_moves_other_row t_moves_other_comes t_moves_other_begins t_moves_other_round t_moves_other_size t_moves_other_back t_moves_other_loads t_moves_other_miles t_moves_other_waits t_moves_other_lateAt t_moves_isOfTwo x1 x2 = some (r, z_t_moves_one_row, z_t_moves_one_comes, z_t_moves_one_begins, z_t_moves_one_round, z_t_moves_one_size, z_t_moves_one_back, z_t_moves_one_loads, z_t_moves_one_miles, z_t_moves_one_waits, z_t_moves_one_lateAt, z_t_moves_other_row, z_t_moves_other_comes, z_t_moves_other_begins, z_t_moves_other_round, z_t_moves_other_size, z_t_moves_other_back, z_t_moves_other_loads, z_t_moves_other_miles, z_t_moves_other_waits, z_t_moves_other_lateAt, z_t_moves_isOfTwo)) : CI l G yX7_swap kw_X7_swap rm_X7_swap [.ref a_t, .int x1, .int x2] (w_X7_swap G a_t a_t_now a_t_kept a_t_thought a_t_draft a_t_filling a_t_moves a_t_text a_t_tapes a_t_now_facts a_t_now_roundsOf a_t_now_locked a_t_now_rules a_t_now_sizes a_t_now_rows a_t_now_seen a_t_now_plan a_t_now_book a_t_moves_one a_t_moves_other a_t_moves_one_row a_t_moves_one_comes a_t_moves_one_begins a_t_moves_one_slacks a_t_moves_other_row a_t_moves_other_comes a_t_moves_other_begins a_t_moves_other_slacks t_hasKept t_toldKind t_work t_now_stopCount t_now_metric t_now_fixed t_now_facts t_now_roundsOf t_now_locked t_now_rules t_now_sizes t_now_rows t_moves_isOfTwo t_moves_kind t_moves_gain t_moves_a t_moves_b t_moves_c t_moves_one_round t_moves_one_size t_moves_one_back t_moves_one_loads t_moves_one_miles t_moves_one_waits t_moves_one_lateAt t_moves_one_later t_moves_one_row t_moves_one_comes t_moves_one_begins t_moves_other_round t_moves_other_size t_moves_other_back t_moves_other_loads t_moves_other_miles t_moves_other_waits t_moves_other_lateAt t_moves_other_later t_moves_other_row t_moves_other_comes t_moves_other_begins) r (w_X7_swap G a_t a_t_now a_t_kept a_t_thought a_t_draft a_t_filling a_t_moves a_t_text a_t_tapes a_t_now_facts a_t_now_roundsOf a_t_now_locked a_t_now_rules a_t_now_sizes a_t_now_rows a_t_now_seen a_t_now_plan a_t_now_book a_t_moves_one a_t_moves_other a_t_moves_one_row a_t_moves_one_comes a_t_moves_one_begins a_t_moves_one_slacks a_t_moves_other_row a_t_moves_other_comes a_t_moves_other_begins a_t_moves_other_slacks t_hasKept t_toldKind t_work t_now_stopCount t_now_metric t_now_fixed t_now_facts t_now_roundsOf t_now_locked t_now_rules t_now_sizes t_now_rows z_t_moves_isOfTwo t_moves_kind t_moves_gain t_moves_a t_moves_b t_moves_c z_t_moves_one_round z_t_moves_one_size z_t_moves_one_back z_t_moves_one_loads z_t_moves_one_miles z_t_moves_one_waits z_t_moves_one_lateAt t_moves_one_later z_t_moves_one_row z_t_moves_one_comes z_t_moves_one_begins z_t_moves_other_round z_t_moves_other_size z_t_moves_other_back z_t_moves_other_loads z_t_moves_other_miles z_t_moves_other_waits z_t_moves_other_lateAt t_moves_other_later z_t_moves_other_row z_t_moves_other_comes z_t_moves_other_begins) := by
  refine en_I (cc := cX7_swap) (maxL := 3) (ret := (some .int)) (by decide +kernel) (Nat.le_of_ble_eq_true rfl) ?_
  intro p e s m args below meth c A ls C S hl
  have hl : lv_has ls 3 [(0, .ref a_t), (1, .int x1), (2, .int x2)] := hl
  have C : Cx p s m args meth c cX7_swap (some .int) 3 RX7 G A := C
  unfold f_X7_swap at hf
  have hx := C.1
  have hb := C.2.1
  have hown := C.2.2.2.2.1
  have hts := C.2.2.2.2.2.1
  have hN := C.2.2.2.2.2.2.2.2.2.2
  refine lv_aload_n (pc := 0) hx hb dX7_swap_0 rfl (lv_at hl 0 rfl) ?_
  refine x_get (pc := 1) (ci := 7) (T := TX7) (v := .ref a_t_now) C S 0 rfl rfl inlX7 0 (by decide) rfl qf_7_14 rfl dX7_swap_1 ?_
  refine lv_iload_n (pc := 4) hx hb dX7_swap_4 rfl (lv_at hl 1 rfl) ?_
  obtain ⟨r1, hq1, hf⟩ := bd_e hf
  refine x_vI (pc := 5) (As := [.int x1]) (rest := []) (isC := [1]) (ws' := (w_X7_swap G a_t a_t_now a_t_kept a_t_thought a_t_draft a_t_filling a_t_moves a_t_text a_t_tapes a_t_now_facts a_t_now_roundsOf a_t_now_locked a_t_now_rules a_t_now_sizes a_t_now_rows a_t_now_seen a_t_now_plan a_t_now_book a_t_moves_one a_t_moves_other a_t_moves_one_row a_t_moves_one_comes a_t_moves_one_begins a_t_moves_one_slacks a_t_moves_other_row a_t_moves_other_comes a_t_moves_other_begins a_t_moves_other_slacks t_hasKept t_toldKind t_work t_now_stopCount t_now_metric t_now_fixed t_now_facts t_now_roundsOf t_now_locked t_now_rules t_now_sizes t_now_rows t_moves_isOfTwo t_moves_kind t_moves_gain t_moves_a t_moves_b t_moves_c t_moves_one_round t_moves_one_size t_moves_one_back t_moves_one_loads t_moves_one_miles t_moves_one_waits t_moves_one_lateAt t_moves_one_later t_moves_one_row t_moves_one_comes t_moves_one_begins t_moves_other_round t_moves_other_size t_moves_other_back t_moves_other_loads t_moves_other_miles t_moves_other_waits t_moves_other_lateAt t_moves_other_later t_moves_other_row t_moves_other_comes t_moves_other_begins)) C S (c_X6_isStop l G a_t_now a_t_now_facts a_t_now_roundsOf a_t_now_locked a_t_now_rules a_t_now_sizes a_t_now_rows a_t_now_seen a_t_now_plan a_t_now_book t_now_stopCount t_now_metric t_now_fixed x1 r1 hq1) (u_X7_swap_X6_isStop_100 hts) (ci := 6) rfl 1 rfl rfl rfl rfl rfl rfl hl.1 rfl (Nat.le_of_ble_eq_true rfl) dX7_swap_5 (fun H locs S => ?_)
  refine lv_if_eq (tgt := 27) (pc := 8) hx hb dX7_swap_8 (by decide) (fun c2 => ?_) (fun c2 => ?_)
  · have hf := ifp c2 hf
    refine lv_iconst (pc := 27) hx hb dX7_swap_27 ic_m1 ?_
    cases hf
    exact x_iret (pc := 28) C S dX7_swap_28
  · have hf := ifn c2 hf
    refine lv_aload_n (pc := 11) hx hb dX7_swap_11 rfl (lv_at hl 0 rfl) ?_
    refine x_get (pc := 12) (ci := 7) (T := TX7) (v := .ref a_t_now) C S 0 rfl rfl inlX7 0 (by decide) rfl qf_7_14 rfl dX7_swap_12 ?_
    refine lv_iload_n (pc := 15) hx hb dX7_swap_15 rfl (lv_at hl 2 rfl) ?_
    obtain ⟨r3, hq3, hf⟩ := bd_e hf
    refine x_vI (pc := 16) (As := [.int x2]) (rest := []) (isC := [1]) (ws' := (w_X7_swap G a_t a_t_now a_t_kept a_t_thought a_t_draft a_t_filling a_t_moves a_t_text a_t_tapes a_t_now_facts a_t_now_roundsOf a_t_now_locked a_t_now_rules a_t_now_sizes a_t_now_rows a_t_now_seen a_t_now_plan a_t_now_book a_t_moves_one a_t_moves_other a_t_moves_one_row a_t_moves_one_comes a_t_moves_one_begins a_t_moves_one_slacks a_t_moves_other_row a_t_moves_other_comes a_t_moves_other_begins a_t_moves_other_slacks t_hasKept t_toldKind t_work t_now_stopCount t_now_metric t_now_fixed t_now_facts t_now_roundsOf t_now_locked t_now_rules t_now_sizes t_now_rows t_moves_isOfTwo t_moves_kind t_moves_gain t_moves_a t_moves_b t_moves_c t_moves_one_round t_moves_one_size t_moves_one_back t_moves_one_loads t_moves_one_miles t_moves_one_waits t_moves_one_lateAt t_moves_one_later t_moves_one_row t_moves_one_comes t_moves_one_begins t_moves_other_round t_moves_other_size t_moves_other_back t_moves_other_loads t_moves_other_miles t_moves_other_waits t_moves_other_lateAt t_moves_other_later t_moves_other_row t_moves_other_comes t_moves_other_begins)) C S (c_X6_isStop l G a_t_now a_t_now_facts a_t_now_roundsOf a_t_now_locked a_t_now_rules a_t_now_sizes a_t_now_rows a_t_now_seen a_t_now_plan a_t_now_book t_now_stopCount t_now_metric t_now_fixed x2 r3 hq3) (u_X7_swap_X6_isStop_100 hts) (ci := 6) rfl 1 rfl rfl rfl rfl rfl rfl hl.1 rfl (Nat.le_of_ble_eq_true rfl) dX7_swap_16 (fun H locs S => ?_)
    refine lv_if_eq (tgt := 27) (pc := 19) hx hb dX7_swap_19 (by decide) (fun c4 => ?_) (fun c4 => ?_)
    · have hf := ifp c4 hf
      refine lv_iconst (pc := 27) hx hb dX7_swap_27 ic_m1 ?_
      cases hf
      exact x_iret (pc := 28) C S dX7_swap_28
    · have hf := ifn c4 hf
      refine lv_iload_n (pc := 22) hx hb dX7_swap_22 rfl (lv_at hl 1 rfl) ?_
      refine lv_iload_n (pc := 23) hx hb dX7_swap_23 rfl (lv_at hl 2 rfl) ?_
      refine lv_icmp_ne (tgt := 29) (pc := 24) hx hb dX7_swap_24 (by decide) (fun c5 => ?_) (fun c5 => ?_)
      · have hf := ifn c5 hf
        refine lv_aload_n (pc := 29) hx hb dX7_swap_29 rfl (lv_at hl 0 rfl) ?_
        refine x_get (pc := 30) (ci := 7) (T := TX7) (v := .ref a_t_now) C S 0 rfl rfl inlX7 0 (by decide) rfl qf_7_14 rfl dX7_swap_30 ?_
        refine lv_iload_n (pc := 33) hx hb dX7_swap_33 rfl (lv_at hl 1 rfl) ?_
        obtain ⟨r6, hq6, hf⟩ := bd_e hf
        refine x_vI (pc := 34) (As := [.int x1]) (rest := []) (isC := [1, 3]) (ws' := (w_X7_swap G a_t a_t_now a_t_kept a_t_thought a_t_draft a_t_filling a_t_moves a_t_text a_t_tapes a_t_now_facts a_t_now_roundsOf a_t_now_locked a_t_now_rules a_t_now_sizes a_t_now_rows a_t_now_seen a_t_now_plan a_t_now_book a_t_moves_one a_t_moves_other a_t_moves_one_row a_t_moves_one_comes a_t_moves_one_begins a_t_moves_one_slacks a_t_moves_other_row a_t_moves_other_comes a_t_moves_other_begins a_t_moves_other_slacks t_hasKept t_toldKind t_work t_now_stopCount t_now_metric t_now_fixed t_now_facts t_now_roundsOf t_now_locked t_now_rules t_now_sizes t_now_rows t_moves_isOfTwo t_moves_kind t_moves_gain t_moves_a t_moves_b t_moves_c t_moves_one_round t_moves_one_size t_moves_one_back t_moves_one_loads t_moves_one_miles t_moves_one_waits t_moves_one_lateAt t_moves_one_later t_moves_one_row t_moves_one_comes t_moves_one_begins t_moves_other_round t_moves_other_size t_moves_other_back t_moves_other_loads t_moves_other_miles t_moves_other_waits t_moves_other_lateAt t_moves_other_later t_moves_other_row t_moves_other_comes t_moves_other_begins)) C S (c_X6_roundOf l G a_t_now a_t_now_facts a_t_now_roundsOf a_t_now_locked a_t_now_rules a_t_now_sizes a_t_now_rows a_t_now_seen a_t_now_plan a_t_now_book t_now_stopCount t_now_metric t_now_fixed t_now_roundsOf x1 r6 hq6) (u_X7_swap_X6_roundOf_115 hts) (ci := 6) rfl 1 rfl rfl rfl rfl rfl rfl hl.1 rfl (Nat.le_of_ble_eq_true rfl) dX7_swap_34 (fun H locs S => ?_)
        refine lv_bipush (pc := 37) hx hb dX7_swap_37 bc_m5 ?_
        refine lv_icmp_eq (tgt := 55) (pc := 39) hx hb dX7_swap_39 (by decide) (fun c7 => ?_) (fun c7 => ?_)
        · have hf := ifp c7 hf
          refine lv_bipush (pc := 55) hx hb dX7_swap_55 bc_m3 ?_
          cases hf
          exact x_iret (pc := 57) C S dX7_swap_57
        · have hf := ifn c7 hf
          refine lv_aload_n (pc := 42) hx hb dX7_swap_42 rfl (lv_at hl 0 rfl) ?_
          refine x_get (pc := 43) (ci := 7) (T := TX7) (v := .ref a_t_now) C S 0 rfl rfl inlX7 0 (by decide) rfl qf_7_14 rfl dX7_swap_43 ?_
          refine lv_iload_n (pc := 46) hx hb dX7_swap_46 rfl (lv_at hl 2 rfl) ?_
          obtain ⟨r8, hq8, hf⟩ := bd_e hf
          refine x_vI (pc := 47) (As := [.int x2]) (rest := []) (isC := [1, 3]) (ws' := (w_X7_swap G a_t a_t_now a_t_kept a_t_thought a_t_draft a_t_filling a_t_moves a_t_text a_t_tapes a_t_now_facts a_t_now_roundsOf a_t_now_locked a_t_now_rules a_t_now_sizes a_t_now_rows a_t_now_seen a_t_now_plan a_t_now_book a_t_moves_one a_t_moves_other a_t_moves_one_row a_t_moves_one_comes a_t_moves_one_begins a_t_moves_one_slacks a_t_moves_other_row a_t_moves_other_comes a_t_moves_other_begins a_t_moves_other_slacks t_hasKept t_toldKind t_work t_now_stopCount t_now_metric t_now_fixed t_now_facts t_now_roundsOf t_now_locked t_now_rules t_now_sizes t_now_rows t_moves_isOfTwo t_moves_kind t_moves_gain t_moves_a t_moves_b t_moves_c t_moves_one_round t_moves_one_size t_moves_one_back t_moves_one_loads t_moves_one_miles t_moves_one_waits t_moves_one_lateAt t_moves_one_later t_moves_one_row t_moves_one_comes t_moves_one_begins t_moves_other_round t_moves_other_size t_moves_other_back t_moves_other_loads t_moves_other_miles t_moves_other_waits t_moves_other_lateAt t_moves_other_later t_moves_other_row t_moves_other_comes t_moves_other_begins)) C S (c_X6_roundOf l G a_t_now a_t_now_facts a_t_now_roundsOf a_t_now_locked a_t_now_rules a_t_now_sizes a_t_now_rows a_t_now_seen a_t_now_plan a_t_now_book t_now_stopCount t_now_metric t_now_fixed t_now_roundsOf x2 r8 hq8) (u_X7_swap_X6_roundOf_115 hts) (ci := 6) rfl 1 rfl rfl rfl rfl rfl rfl hl.1 rfl (Nat.le_of_ble_eq_true rfl) dX7_swap_47 (fun H locs S => ?_)
          refine lv_bipush (pc := 50) hx hb dX7_swap_50 bc_m5 ?_
          refine lv_icmp_ne (tgt := 58) (pc := 52) hx hb dX7_swap_52 (by decide) (fun c9 => ?_) (fun c9 => ?_)
          · have hf := ifn c9 hf
            refine lv_aload_n (pc := 58) hx hb dX7_swap_58 rfl (lv_at hl 0 rfl) ?_
            refine x_get (pc := 59) (ci := 7) (T := TX7) (v := .ref a_t_moves) C S 0 rfl rfl inlX7 5 (by decide) rfl qf_7_41 rfl dX7_swap_59 ?_
            refine lv_aload_n (pc := 62) hx hb dX7_swap_62 rfl (lv_at hl 0 rfl) ?_
            refine x_get (pc := 63) (ci := 7) (T := TX7) (v := .ref a_t_now) C S 0 rfl rfl inlX7 0 (by decide) rfl qf_7_14 rfl dX7_swap_63 ?_
            refine lv_iload_n (pc := 66) hx hb dX7_swap_66 rfl (lv_at hl 1 rfl) ?_
            refine lv_iload_n (pc := 67) hx hb dX7_swap_67 rfl (lv_at hl 2 rfl) ?_
            obtain ⟨⟨r10, o10_t_moves_one_row, o10_t_moves_one_comes, o10_t_moves_one_begins, o10_t_moves_one_round, o10_t_moves_one_size, o10_t_moves_one_back, o10_t_moves_one_loads, o10_t_moves_one_miles, o10_t_moves_one_waits, o10_t_moves_one_lateAt, o10_t_moves_other_row, o10_t_moves_other_comes, o10_t_moves_other_begins, o10_t_moves_other_round, o10_t_moves_other_size, o10_t_moves_other_back, o10_t_moves_other_loads, o10_t_moves_other_miles, o10_t_moves_other_waits, o10_t_moves_other_lateAt, o10_t_moves_isOfTwo⟩, hq10, hf⟩ := bd_e hf
            refine x_vI (pc := 68) (As := [.ref a_t_now, .int x1, .int x2]) (rest := []) (isC := [8, 9, 10, 11, 12, 13, 14, 15, 16, 1, 2, 3, 4, 5, 6, 7]) (ws' := (w_X7_swap G a_t a_t_now a_t_kept a_t_thought a_t_draft a_t_filling a_t_moves a_t_text a_t_tapes a_t_now_facts a_t_now_roundsOf a_t_now_locked a_t_now_rules a_t_now_sizes a_t_now_rows a_t_now_seen a_t_now_plan a_t_now_book a_t_moves_one a_t_moves_other a_t_moves_one_row a_t_moves_one_comes a_t_moves_one_begins a_t_moves_one_slacks a_t_moves_other_row a_t_moves_other_comes a_t_moves_other_begins a_t_moves_other_slacks t_hasKept t_toldKind t_work t_now_stopCount t_now_metric t_now_fixed t_now_facts t_now_roundsOf t_now_locked t_now_rules t_now_sizes t_now_rows o10_t_moves_isOfTwo t_moves_kind t_moves_gain t_moves_a t_moves_b t_moves_c o10_t_moves_one_round o10_t_moves_one_size o10_t_moves_one_back o10_t_moves_one_loads o10_t_moves_one_miles o10_t_moves_one_waits o10_t_moves_one_lateAt t_moves_one_later o10_t_moves_one_row o10_t_moves_one_comes o10_t_moves_one_begins o10_t_moves_other_round o10_t_moves_other_size o10_t_moves_other_back o10_t_moves_other_loads o10_t_moves_other_miles o10_t_moves_other_waits o10_t_moves_other_lateAt t_moves_other_later o10_t_moves_other_row o10_t_moves_other_comes o10_t_moves_other_begins)) C S (c_X2_trySwap l G a_t_moves a_t_moves_one a_t_moves_other a_t_moves_one_row a_t_moves_one_comes a_t_moves_one_begins a_t_moves_one_slacks a_t_moves_other_row a_t_moves_other_comes a_t_moves_other_begins a_t_moves_other_slacks a_t_now a_t_now_facts a_t_now_roundsOf a_t_now_locked a_t_now_rules a_t_now_sizes a_t_now_rows a_t_now_seen a_t_now_plan a_t_now_book t_moves_isOfTwo t_moves_kind t_moves_gain t_moves_a t_moves_b t_moves_c t_moves_one_round t_moves_one_size t_moves_one_back t_moves_one_loads t_moves_one_miles t_moves_one_waits t_moves_one_lateAt t_moves_one_later t_moves_one_row t_moves_one_comes t_moves_one_begins t_moves_other_round t_moves_other_size t_moves_other_back t_moves_other_loads t_moves_other_miles t_moves_other_waits t_moves_other_lateAt t_moves_other_later t_moves_other_row t_moves_other_comes t_moves_other_begins t_now_stopCount t_now_metric t_now_fixed t_now_facts t_now_roundsOf t_now_locked t_now_rules t_now_sizes t_now_rows x1 x2 r10 o10_t_moves_one_row o10_t_moves_one_comes o10_t_moves_one_begins o10_t_moves_one_round o10_t_moves_one_size o10_t_moves_one_back o10_t_moves_one_loads o10_t_moves_one_miles o10_t_moves_one_waits o10_t_moves_one_lateAt o10_t_moves_other_row o10_t_moves_other_comes o10_t_moves_other_begins o10_t_moves_other_round o10_t_moves_other_size o10_t_moves_other_back o10_t_moves_other_loads o10_t_moves_other_miles o10_t_moves_other_waits o10_t_moves_other_lateAt o10_t_moves_isOfTwo hq10) (u_X7_swap_X2_trySwap_288 hts) (ci := 2) rfl 8 rfl rfl rfl rfl rfl rfl hl.1 rfl (Nat.le_of_ble_eq_true rfl) dX7_swap_68 (fun H locs S => ?_)
            refine lv_if_eq (tgt := 90) (pc := 71) hx hb dX7_swap_71 (by decide) (fun c11 => ?_) (fun c11 => ?_)
            · have hf := ifp c11 hf
              refine lv_ldcw (pc := 90) hx hb hown (hts _ qk_7_281) dX7_swap_90 ?_
              cases hf
              exact x_iret (pc := 93) C S dX7_swap_93
            · have hf := ifn c11 hf
              refine lv_aload_n (pc := 74) hx hb dX7_swap_74 rfl (lv_at hl 0 rfl) ?_
              refine x_get (pc := 75) (ci := 7) (T := TX7) (v := .ref a_t_moves) C S 0 rfl rfl inlX7 5 (by decide) rfl qf_7_41 rfl dX7_swap_75 ?_
              refine lv_aload_n (pc := 78) hx hb dX7_swap_78 rfl (lv_at hl 0 rfl) ?_
              refine x_get (pc := 79) (ci := 7) (T := TX7) (v := .ref a_t_now) C S 0 rfl rfl inlX7 0 (by decide) rfl qf_7_14 rfl dX7_swap_79 ?_
              refine lv_iload_n (pc := 82) hx hb dX7_swap_82 rfl (lv_at hl 1 rfl) ?_
              refine lv_iload_n (pc := 83) hx hb dX7_swap_83 rfl (lv_at hl 2 rfl) ?_
              obtain ⟨r12, hq12, hf⟩ := bd_e hf
              refine x_vI (pc := 84) (As := [.ref a_t_now, .int x1, .int x2]) (rest := []) (isC := [8, 1, 2, 3, 6, 7]) (ws' := (w_X7_swap G a_t a_t_now a_t_kept a_t_thought a_t_draft a_t_filling a_t_moves a_t_text a_t_tapes a_t_now_facts a_t_now_roundsOf a_t_now_locked a_t_now_rules a_t_now_sizes a_t_now_rows a_t_now_seen a_t_now_plan a_t_now_book a_t_moves_one a_t_moves_other a_t_moves_one_row a_t_moves_one_comes a_t_moves_one_begins a_t_moves_one_slacks a_t_moves_other_row a_t_moves_other_comes a_t_moves_other_begins a_t_moves_other_slacks t_hasKept t_toldKind t_work t_now_stopCount t_now_metric t_now_fixed t_now_facts t_now_roundsOf t_now_locked t_now_rules t_now_sizes t_now_rows o10_t_moves_isOfTwo t_moves_kind t_moves_gain t_moves_a t_moves_b t_moves_c o10_t_moves_one_round o10_t_moves_one_size o10_t_moves_one_back o10_t_moves_one_loads o10_t_moves_one_miles o10_t_moves_one_waits o10_t_moves_one_lateAt t_moves_one_later o10_t_moves_one_row o10_t_moves_one_comes o10_t_moves_one_begins o10_t_moves_other_round o10_t_moves_other_size o10_t_moves_other_back o10_t_moves_other_loads o10_t_moves_other_miles o10_t_moves_other_waits o10_t_moves_other_lateAt t_moves_other_later o10_t_moves_other_row o10_t_moves_other_comes o10_t_moves_other_begins)) C S (c_X2_swapGain l G a_t_moves a_t_moves_one a_t_moves_other a_t_now a_t_now_facts a_t_now_roundsOf a_t_now_locked a_t_now_rules a_t_now_sizes a_t_now_rows a_t_now_seen a_t_now_plan a_t_now_book o10_t_moves_isOfTwo t_moves_kind t_moves_gain t_moves_a t_moves_b t_moves_c t_now_stopCount t_now_metric t_now_fixed t_now_facts t_now_roundsOf t_now_sizes t_now_rows x1 x2 r12 hq12) (u_X7_swap_X2_swapGain_292 hts) (ci := 2) rfl 8 rfl rfl rfl rfl rfl rfl hl.1 rfl (Nat.le_of_ble_eq_true rfl) dX7_swap_84 (fun H locs S => ?_)
              refine lv_goto (tgt := 93) (pc := 87) hx hb dX7_swap_87 (by decide) ?_
              cases hf
              exact x_iret (pc := 93) C S dX7_swap_93
          · have hf := ifp c9 hf
            refine lv_bipush (pc := 55) hx hb dX7_swap_55 bc_m3 ?_
            cases hf
            exact x_iret (pc := 57) C S dX7_swap_57
      · have hf := ifp c5 hf
        refine lv_iconst (pc := 27) hx hb dX7_swap_27 ic_m1 ?_
        cases hf
        exact x_iret (pc := 28) C S dX7_swap_28
end

abbrev rm_X7_take : Room := { frames := 5, cells := 0, slots := 0, locals := 115 }
abbrev kw_X7_take : Cond := .code yX7_take cX7_take 3 (some .int)
abbrev w_X7_take (G : GE) (a_t a_t_now a_t_kept a_t_thought a_t_draft a_t_filling a_t_moves a_t_text a_t_tapes a_t_now_facts a_t_now_roundsOf a_t_now_locked a_t_now_rules a_t_now_sizes a_t_now_rows a_t_now_seen a_t_now_plan a_t_now_book a_t_draft_row a_t_draft_comes a_t_draft_begins a_t_draft_slacks : Nat) (t_hasKept : Int32) (t_toldKind : Int32) (t_work : Int32) (t_now_stopCount : Int32) (t_now_metric : Int32) (t_now_fixed : Int32) (t_now_facts : Nat → Int32) (t_now_roundsOf : Nat → Int32) (t_now_locked : Nat → Int32) (t_now_rules : Nat → Int32) (t_now_sizes : Nat → Int32) (t_now_rows : Nat → Int32) (t_draft_round : Int32) (t_draft_size : Int32) (t_draft_back : Int32) (t_draft_loads : Int32) (t_draft_miles : Int32) (t_draft_waits : Int32) (t_draft_lateAt : Int32) (t_draft_later : Int32) (t_draft_row : Nat → Int32) (t_draft_comes : Nat → Int32) (t_draft_begins : Nat → Int32) : va_W := [(a_t, ob 7 [.ref a_t_now, .ref a_t_kept, .ref a_t_thought, .ref a_t_draft, .ref a_t_filling, .ref a_t_moves, .ref a_t_text, .ref a_t_tapes, .int t_hasKept, .int t_toldKind, .int t_work]), (a_t_now, ob 6 [.ref a_t_now_facts, .ref a_t_now_roundsOf, .ref a_t_now_locked, .ref a_t_now_rules, .ref a_t_now_sizes, .ref a_t_now_rows, .ref a_t_now_seen, .ref a_t_now_plan, .ref a_t_now_book, .int t_now_stopCount, .int t_now_metric, .int t_now_fixed]), (a_t_now_facts, aI G 102 t_now_facts), (a_t_now_roundsOf, aI G 16 t_now_roundsOf), (a_t_now_locked, aZ G 16 t_now_locked), (a_t_now_rules, aI G 12 t_now_rules), (a_t_now_sizes, aI G 4 t_now_sizes), (a_t_now_rows, aI G 64 t_now_rows), (a_t_draft, ob 0 [.ref a_t_draft_row, .ref a_t_draft_comes, .ref a_t_draft_begins, .ref a_t_draft_slacks, .int t_draft_round, .int t_draft_size, .int t_draft_back, .int t_draft_loads, .int t_draft_miles, .int t_draft_waits, .int t_draft_lateAt, .int t_draft_later]), (a_t_draft_row, aI G 16 t_draft_row), (a_t_draft_comes, aI G 16 t_draft_comes), (a_t_draft_begins, aI G 16 t_draft_begins)]
theorem u_X7_take_X6_isStop_100 {s : State} {args : Array Value} (hts : ∀ w ∈ WU, w.before args s = true) : CallW rm_X7_take s args RX7 RX6 100 yX6_isStop cX6_isStop 2 (some .boolean) (kw_X6_isStop :: WU) rm_X6_isStop 0 0 1 := cwV 1 hts (gV qm_7_100 qi_X6_isStop ql_X6_isStop qn_6 qc_X6_isStop) rfl rfl rfl (by decide +kernel) ⟨Nat.le_of_ble_eq_true rfl, Nat.le_of_ble_eq_true rfl⟩
theorem u_X7_take_X6_cost_186 {s : State} {args : Array Value} (hts : ∀ w ∈ WU, w.before args s = true) : CallW rm_X7_take s args RX7 RX6 186 yX6_cost cX6_cost 1 (some .int) (kw_X6_cost :: WU) rm_X6_cost 0 0 0 := cwV 0 hts (gV qm_7_186 qi_X6_cost ql_X6_cost qn_6 qc_X6_cost) rfl rfl rfl (by decide +kernel) ⟨Nat.le_of_ble_eq_true rfl, Nat.le_of_ble_eq_true rfl⟩
theorem u_X7_take_X7_takeOut_189 {s : State} {args : Array Value} (hts : ∀ w ∈ WU, w.before args s = true) : CallW rm_X7_take s args RX7 RX7 189 yX7_takeOut cX7_takeOut 4 (some .boolean) (kw_X7_takeOut :: WU) rm_X7_takeOut 0 0 2 := cwV 2 hts (gV qm_7_189 qi_X7_takeOut ql_X7_takeOut qn_7 qc_X7_takeOut) rfl rfl rfl (by decide +kernel) ⟨Nat.le_of_ble_eq_true rfl, Nat.le_of_ble_eq_true rfl⟩
section
variable {p : Program} {l : Launch} {e : Env} {s : State} {m : MethodId} {args : Array Value} {below : List Frame} {meth : Method} {c : Code} {A : Nat → Prop} {G : GE} {a_t a_t_now a_t_kept a_t_thought a_t_draft a_t_filling a_t_moves a_t_text a_t_tapes a_t_now_facts a_t_now_roundsOf a_t_now_locked a_t_now_rules a_t_now_sizes a_t_now_rows a_t_now_seen a_t_now_plan a_t_now_book a_t_draft_row a_t_draft_comes a_t_draft_begins a_t_draft_slacks : Nat} {r : Int32} {z_t_now_roundsOf : Nat → Int32} {z_t_now_sizes : Nat → Int32} {z_t_now_rows : Nat → Int32} {z_t_draft_row : Nat → Int32} {z_t_draft_comes : Nat → Int32} {z_t_draft_begins : Nat → Int32} {z_t_draft_round : Int32} {z_t_draft_size : Int32} {z_t_draft_back : Int32} {z_t_draft_loads : Int32} {z_t_draft_miles : Int32} {z_t_draft_waits : Int32} {z_t_draft_lateAt : Int32}
set_option maxRecDepth 100000 in
set_option maxHeartbeats 4000000 in
theorem c_X7_take (l : Launch) (G : GE) (a_t a_t_now a_t_kept a_t_thought a_t_draft a_t_filling a_t_moves a_t_text a_t_tapes a_t_now_facts a_t_now_roundsOf a_t_now_locked a_t_now_rules a_t_now_sizes a_t_now_rows a_t_now_seen a_t_now_plan a_t_now_book a_t_draft_row a_t_draft_comes a_t_draft_begins a_t_draft_slacks : Nat) (t_hasKept : Int32) (t_toldKind : Int32) (t_work : Int32) (t_now_stopCount : Int32) (t_now_metric : Int32) (t_now_fixed : Int32) (t_now_facts : Nat → Int32) (t_now_roundsOf : Nat → Int32) (t_now_locked : Nat → Int32) (t_now_rules : Nat → Int32) (t_now_sizes : Nat → Int32) (t_now_rows : Nat → Int32) (t_draft_round : Int32) (t_draft_size : Int32) (t_draft_back : Int32) (t_draft_loads : Int32) (t_draft_miles : Int32) (t_draft_waits : Int32) (t_draft_lateAt : Int32) (t_draft_later : Int32) (t_draft_row : Nat → Int32) (t_draft_comes : Nat → Int32) (t_draft_begins : Nat → Int32) (x1 : Int32) (r : Int32) (z_t_now_roundsOf : Nat → Int32) (z_t_now_sizes : Nat → Int32) (z_t_now_rows : Nat → Int32) (z_t_draft_row : Nat → Int32) (z_t_draft_comes : Nat → Int32) (z_t_draft_begins : Nat → Int32) (z_t_draft_round : Int32) (z_t_draft_size : Int32) (z_t_draft_back : Int32) (z_t_draft_loads : Int32) (z_t_draft_miles : Int32) (z_t_draft_waits : Int32) (z_t_draft_lateAt : Int32) (hf : f_X7_take t_now_facts t_now_roundsOf t_now_locked t_now_rules t_now_sizes t_now_rows t_now_stopCount t_now_metric t_now_fixed t_draft_row t_draft_comes t_draft_begins t_draft_round t_draft_size t_draft_back t_draft_loads t_draft_miles t_draft_waits t_draft_lateAt x1 = some (r, z_t_now_roundsOf, z_t_now_sizes, z_t_now_rows, z_t_draft_row, z_t_draft_comes, z_t_draft_begins, z_t_draft_round, z_t_draft_size, z_t_draft_back, z_t_draft_loads, z_t_draft_miles, z_t_draft_waits, z_t_draft_lateAt)) : CI l G yX7_take kw_X7_take rm_X7_take [.ref a_t, .int x1] (w_X7_take G a_t a_t_now a_t_kept a_t_thought a_t_draft a_t_filling a_t_moves a_t_text a_t_tapes a_t_now_facts a_t_now_roundsOf a_t_now_locked a_t_now_rules a_t_now_sizes a_t_now_rows a_t_now_seen a_t_now_plan a_t_now_book a_t_draft_row a_t_draft_comes a_t_draft_begins a_t_draft_slacks t_hasKept t_toldKind t_work t_now_stopCount t_now_metric t_now_fixed t_now_facts t_now_roundsOf t_now_locked t_now_rules t_now_sizes t_now_rows t_draft_round t_draft_size t_draft_back t_draft_loads t_draft_miles t_draft_waits t_draft_lateAt t_draft_later t_draft_row t_draft_comes t_draft_begins) r (w_X7_take G a_t a_t_now a_t_kept a_t_thought a_t_draft a_t_filling a_t_moves a_t_text a_t_tapes a_t_now_facts a_t_now_roundsOf a_t_now_locked a_t_now_rules a_t_now_sizes a_t_now_rows a_t_now_seen a_t_now_plan a_t_now_book a_t_draft_row a_t_draft_comes a_t_draft_begins a_t_draft_slacks t_hasKept t_toldKind t_work t_now_stopCount t_now_metric t_now_fixed t_now_facts z_t_now_roundsOf t_now_locked t_now_rules z_t_now_sizes z_t_now_rows z_t_draft_round z_t_draft_size z_t_draft_back z_t_draft_loads z_t_draft_miles z_t_draft_waits z_t_draft_lateAt t_draft_later z_t_draft_row z_t_draft_comes z_t_draft_begins) := by
  refine en_I (cc := cX7_take) (maxL := 3) (ret := (some .int)) (by decide +kernel) (Nat.le_of_ble_eq_true rfl) ?_
  intro p e s m args below meth c A ls C S hl
  have hl : lv_has ls 3 [(0, .ref a_t), (1, .int x1)] := hl
  have C : Cx p s m args meth c cX7_take (some .int) 3 RX7 G A := C
  unfold f_X7_take at hf
  have hx := C.1
  have hb := C.2.1
  have hown := C.2.2.2.2.1
  have hts := C.2.2.2.2.2.1
  have hN := C.2.2.2.2.2.2.2.2.2.2
  refine lv_aload_n (pc := 0) hx hb dX7_take_0 rfl (lv_at hl 0 rfl) ?_
  refine x_get (pc := 1) (ci := 7) (T := TX7) (v := .ref a_t_now) C S 0 rfl rfl inlX7 0 (by decide) rfl qf_7_14 rfl dX7_take_1 ?_
  refine lv_iload_n (pc := 4) hx hb dX7_take_4 rfl (lv_at hl 1 rfl) ?_
  obtain ⟨r1, hq1, hf⟩ := bd_e hf
  refine x_vI (pc := 5) (As := [.int x1]) (rest := []) (isC := [1]) (ws' := (w_X7_take G a_t a_t_now a_t_kept a_t_thought a_t_draft a_t_filling a_t_moves a_t_text a_t_tapes a_t_now_facts a_t_now_roundsOf a_t_now_locked a_t_now_rules a_t_now_sizes a_t_now_rows a_t_now_seen a_t_now_plan a_t_now_book a_t_draft_row a_t_draft_comes a_t_draft_begins a_t_draft_slacks t_hasKept t_toldKind t_work t_now_stopCount t_now_metric t_now_fixed t_now_facts t_now_roundsOf t_now_locked t_now_rules t_now_sizes t_now_rows t_draft_round t_draft_size t_draft_back t_draft_loads t_draft_miles t_draft_waits t_draft_lateAt t_draft_later t_draft_row t_draft_comes t_draft_begins)) C S (c_X6_isStop l G a_t_now a_t_now_facts a_t_now_roundsOf a_t_now_locked a_t_now_rules a_t_now_sizes a_t_now_rows a_t_now_seen a_t_now_plan a_t_now_book t_now_stopCount t_now_metric t_now_fixed x1 r1 hq1) (u_X7_take_X6_isStop_100 hts) (ci := 6) rfl 1 rfl rfl rfl rfl rfl rfl hl.1 rfl (Nat.le_of_ble_eq_true rfl) dX7_take_5 (fun H locs S => ?_)
  refine lv_if_ne (tgt := 13) (pc := 8) hx hb dX7_take_8 (by decide) (fun c2 => ?_) (fun c2 => ?_)
  · have hf := ifn c2 hf
    refine lv_aload_n (pc := 13) hx hb dX7_take_13 rfl (lv_at hl 0 rfl) ?_
    refine x_get (pc := 14) (ci := 7) (T := TX7) (v := .ref a_t_now) C S 0 rfl rfl inlX7 0 (by decide) rfl qf_7_14 rfl dX7_take_14 ?_
    obtain ⟨r3, hq3, hf⟩ := bd_e hf
    refine x_vI (pc := 17) (As := []) (rest := []) (isC := [1, 2, 6, 7]) (ws' := (w_X7_take G a_t a_t_now a_t_kept a_t_thought a_t_draft a_t_filling a_t_moves a_t_text a_t_tapes a_t_now_facts a_t_now_roundsOf a_t_now_locked a_t_now_rules a_t_now_sizes a_t_now_rows a_t_now_seen a_t_now_plan a_t_now_book a_t_draft_row a_t_draft_comes a_t_draft_begins a_t_draft_slacks t_hasKept t_toldKind t_work t_now_stopCount t_now_metric t_now_fixed t_now_facts t_now_roundsOf t_now_locked t_now_rules t_now_sizes t_now_rows t_draft_round t_draft_size t_draft_back t_draft_loads t_draft_miles t_draft_waits t_draft_lateAt t_draft_later t_draft_row t_draft_comes t_draft_begins)) C S (c_X6_cost l G a_t_now a_t_now_facts a_t_now_roundsOf a_t_now_locked a_t_now_rules a_t_now_sizes a_t_now_rows a_t_now_seen a_t_now_plan a_t_now_book t_now_stopCount t_now_metric t_now_fixed t_now_facts t_now_sizes t_now_rows r3 hq3) (u_X7_take_X6_cost_186 hts) (ci := 6) rfl 1 rfl rfl rfl rfl rfl rfl hl.1 rfl (Nat.le_of_ble_eq_true rfl) dX7_take_17 (fun H locs S => ?_)
    refine lv_istore_n (pc := 20) (lv' := [(2, .int r3), (0, .ref a_t), (1, .int x1)]) hx hb dX7_take_20 rfl hl (by decide) rfl (fun ls hl => ?_)
    refine lv_aload_n (pc := 21) hx hb dX7_take_21 rfl (lv_at hl 1 rfl) ?_
    refine lv_aload_n (pc := 22) hx hb dX7_take_22 rfl (lv_at hl 1 rfl) ?_
    refine x_get (pc := 23) (ci := 7) (T := TX7) (v := .ref a_t_now) C S 0 rfl rfl inlX7 0 (by decide) rfl qf_7_14 rfl dX7_take_23 ?_
    refine lv_iload_n (pc := 26) hx hb dX7_take_26 rfl (lv_at hl 2 rfl) ?_
    obtain ⟨⟨r4, o4_t_draft_row, o4_t_draft_comes, o4_t_draft_begins, o4_t_draft_round, o4_t_draft_size, o4_t_draft_back, o4_t_draft_loads, o4_t_draft_miles, o4_t_draft_waits, o4_t_draft_lateAt, o4_t_now_roundsOf, o4_t_now_sizes, o4_t_now_rows⟩, hq4, hf⟩ := bd_e hf
    refine x_vI (pc := 27) (As := [.ref a_t_now, .int x1]) (rest := []) (isC := [0, 8, 9, 10, 11, 1, 2, 3, 4, 5, 6, 7]) (ws' := (w_X7_take G a_t a_t_now a_t_kept a_t_thought a_t_draft a_t_filling a_t_moves a_t_text a_t_tapes a_t_now_facts a_t_now_roundsOf a_t_now_locked a_t_now_rules a_t_now_sizes a_t_now_rows a_t_now_seen a_t_now_plan a_t_now_book a_t_draft_row a_t_draft_comes a_t_draft_begins a_t_draft_slacks t_hasKept t_toldKind t_work t_now_stopCount t_now_metric t_now_fixed t_now_facts o4_t_now_roundsOf t_now_locked t_now_rules o4_t_now_sizes o4_t_now_rows o4_t_draft_round o4_t_draft_size o4_t_draft_back o4_t_draft_loads o4_t_draft_miles o4_t_draft_waits o4_t_draft_lateAt t_draft_later o4_t_draft_row o4_t_draft_comes o4_t_draft_begins)) C S (c_X7_takeOut l G a_t a_t_now a_t_kept a_t_thought a_t_draft a_t_filling a_t_moves a_t_text a_t_tapes a_t_draft_row a_t_draft_comes a_t_draft_begins a_t_draft_slacks a_t_now a_t_now_facts a_t_now_roundsOf a_t_now_locked a_t_now_rules a_t_now_sizes a_t_now_rows a_t_now_seen a_t_now_plan a_t_now_book t_hasKept t_toldKind t_work t_draft_round t_draft_size t_draft_back t_draft_loads t_draft_miles t_draft_waits t_draft_lateAt t_draft_later t_draft_row t_draft_comes t_draft_begins t_now_stopCount t_now_metric t_now_fixed t_now_facts t_now_roundsOf t_now_locked t_now_rules t_now_sizes t_now_rows x1 r4 o4_t_draft_row o4_t_draft_comes o4_t_draft_begins o4_t_draft_round o4_t_draft_size o4_t_draft_back o4_t_draft_loads o4_t_draft_miles o4_t_draft_waits o4_t_draft_lateAt o4_t_now_roundsOf o4_t_now_sizes o4_t_now_rows hq4) (u_X7_take_X7_takeOut_189 hts) (ci := 7) rfl 0 rfl rfl rfl rfl rfl rfl hl.1 rfl (Nat.le_of_ble_eq_true rfl) dX7_take_27 (fun H locs S => ?_)
    refine lv_if_eq (tgt := 45) (pc := 30) hx hb dX7_take_30 (by decide) (fun c5 => ?_) (fun c5 => ?_)
    · have hf := ifp c5 hf
      refine lv_bipush (pc := 45) hx hb dX7_take_45 bc_m3 ?_
      cases hf
      exact x_iret (pc := 47) C S dX7_take_47
    · have hf := ifn c5 hf
      refine lv_iload_n (pc := 33) hx hb dX7_take_33 rfl (lv_at hl 0 rfl) ?_
      refine lv_aload_n (pc := 34) hx hb dX7_take_34 rfl (lv_at hl 1 rfl) ?_
      refine x_get (pc := 35) (ci := 7) (T := TX7) (v := .ref a_t_now) C S 0 rfl rfl inlX7 0 (by decide) rfl qf_7_14 rfl dX7_take_35 ?_
      obtain ⟨r6, hq6, hf⟩ := bd_e hf
      refine x_vI (pc := 38) (As := []) (rest := [.int r3]) (isC := [1, 2, 6, 7]) (ws' := (w_X7_take G a_t a_t_now a_t_kept a_t_thought a_t_draft a_t_filling a_t_moves a_t_text a_t_tapes a_t_now_facts a_t_now_roundsOf a_t_now_locked a_t_now_rules a_t_now_sizes a_t_now_rows a_t_now_seen a_t_now_plan a_t_now_book a_t_draft_row a_t_draft_comes a_t_draft_begins a_t_draft_slacks t_hasKept t_toldKind t_work t_now_stopCount t_now_metric t_now_fixed t_now_facts o4_t_now_roundsOf t_now_locked t_now_rules o4_t_now_sizes o4_t_now_rows o4_t_draft_round o4_t_draft_size o4_t_draft_back o4_t_draft_loads o4_t_draft_miles o4_t_draft_waits o4_t_draft_lateAt t_draft_later o4_t_draft_row o4_t_draft_comes o4_t_draft_begins)) C S (c_X6_cost l G a_t_now a_t_now_facts a_t_now_roundsOf a_t_now_locked a_t_now_rules a_t_now_sizes a_t_now_rows a_t_now_seen a_t_now_plan a_t_now_book t_now_stopCount t_now_metric t_now_fixed t_now_facts o4_t_now_sizes o4_t_now_rows r6 hq6) (u_X7_take_X6_cost_186 hts) (ci := 6) rfl 1 rfl rfl rfl rfl rfl rfl hl.1 rfl (Nat.le_of_ble_eq_true rfl) dX7_take_38 (fun H locs S => ?_)
      refine lv_isub (pc := 41) hx hb dX7_take_41 ?_
      refine lv_goto (tgt := 47) (pc := 42) hx hb dX7_take_42 (by decide) ?_
      cases hf
      exact x_iret (pc := 47) C S dX7_take_47
  · have hf := ifp c2 hf
    refine lv_iconst (pc := 11) hx hb dX7_take_11 ic_m1 ?_
    cases hf
    exact x_iret (pc := 12) C S dX7_take_12
end

abbrev rm_X7_taken : Room := { frames := 1, cells := 0, slots := 0, locals := 21 }
abbrev kw_X7_taken : Cond := .code yX7_taken cX7_taken 3 (some .int)
abbrev w_X7_taken (G : GE) (a_t a_t_now a_t_kept a_t_thought a_t_draft a_t_filling a_t_moves a_t_text a_t_tapes : Nat) (t_hasKept : Int32) (t_toldKind : Int32) (t_work : Int32) : va_W := [(a_t, ob 7 [.ref a_t_now, .ref a_t_kept, .ref a_t_thought, .ref a_t_draft, .ref a_t_filling, .ref a_t_moves, .ref a_t_text, .ref a_t_tapes, .int t_hasKept, .int t_toldKind, .int t_work])]
theorem u_X7_taken_X7_isUpTo_63 {s : State} {args : Array Value} (hts : ∀ w ∈ WU, w.before args s = true) : CallB rm_X7_taken s args RX7 63 yX7_isUpTo cX7_isUpTo 2 (some .boolean) (kw_X7_isUpTo :: WU) rm_X7_isUpTo 0 0 2 ∧ (Cond.static yX7_isUpTo).before args s = true := va_cwS 2 hts (gS qm_7_63 qs_X7_isUpTo qn_7 qc_X7_isUpTo) rfl rfl rfl (by decide +kernel) ⟨Nat.le_of_ble_eq_true rfl, Nat.le_of_ble_eq_true rfl⟩
section
variable {p : Program} {l : Launch} {e : Env} {s : State} {m : MethodId} {args : Array Value} {below : List Frame} {meth : Method} {c : Code} {A : Nat → Prop} {G : GE} {a_t a_t_now a_t_kept a_t_thought a_t_draft a_t_filling a_t_moves a_t_text a_t_tapes : Nat} {r : Int32}
set_option maxRecDepth 100000 in
set_option maxHeartbeats 4000000 in
theorem k_X7_taken_53 (C : Cx p s m args meth c cX7_taken (some .int) 3 RX7 G A) (t_hasKept : Int32) (t_toldKind : Int32) (t_work : Int32) (y0 : Int32) {H : Heap} {locs : List Loc} {ls : Array Slot} (hf : b_X7_taken_53 y0 t_toldKind = some r) (S : St G A s.heap H locs (w_X7_taken G a_t a_t_now a_t_kept a_t_thought a_t_draft a_t_filling a_t_moves a_t_text a_t_tapes t_hasKept t_toldKind t_work)) (hl : lv_has ls 3 [(0, .ref a_t)]) : W p l e rm_X7_taken s m args below meth c H locs 0 0 (QI G below args s A r (w_X7_taken G a_t a_t_now a_t_kept a_t_thought a_t_draft a_t_filling a_t_moves a_t_text a_t_tapes t_hasKept t_toldKind t_work)) (F0 m 53 ls [.int y0]) := by
  unfold b_X7_taken_53 at hf
  have hx := C.1
  have hb := C.2.1
  have hown := C.2.2.2.2.1
  have hts := C.2.2.2.2.2.1
  have hN := C.2.2.2.2.2.2.2.2.2.2
  refine lv_istore_n (pc := 53) (lv' := [(2, .int y0), (0, .ref a_t)]) hx hb dX7_taken_53 rfl hl (by decide) rfl (fun ls hl => ?_)
  refine lv_iload_n (pc := 54) hx hb dX7_taken_54 rfl (lv_at hl 0 rfl) ?_
  refine lv_if_eq (tgt := 65) (pc := 55) hx hb dX7_taken_55 (by decide) (fun c1 => ?_) (fun c1 => ?_)
  · have hf := ifp c1 hf
    refine lv_bipush (pc := 65) hx hb dX7_taken_65 bc_m12 ?_
    cases hf
    exact x_iret (pc := 67) C S dX7_taken_67
  · have hf := ifn c1 hf
    refine lv_aload_n (pc := 58) hx hb dX7_taken_58 rfl (lv_at hl 1 rfl) ?_
    refine x_get (pc := 59) (ci := 7) (T := TX7) (v := .int t_toldKind) C S 0 rfl rfl inlX7 9 (by decide) rfl qf_7_59 rfl dX7_taken_59 ?_
    refine lv_goto (tgt := 67) (pc := 62) hx hb dX7_taken_62 (by decide) ?_
    cases hf
    exact x_iret (pc := 67) C S dX7_taken_67
set_option maxRecDepth 100000 in
set_option maxHeartbeats 4000000 in
theorem k_X7_taken_48 (C : Cx p s m args meth c cX7_taken (some .int) 3 RX7 G A) (t_hasKept : Int32) (t_toldKind : Int32) (t_work : Int32) {H : Heap} {locs : List Loc} {ls : Array Slot} (hf : b_X7_taken_48 t_toldKind = some r) (S : St G A s.heap H locs (w_X7_taken G a_t a_t_now a_t_kept a_t_thought a_t_draft a_t_filling a_t_moves a_t_text a_t_tapes t_hasKept t_toldKind t_work)) (hl : lv_has ls 3 [(0, .ref a_t)]) : W p l e rm_X7_taken s m args below meth c H locs 0 0 (QI G below args s A r (w_X7_taken G a_t a_t_now a_t_kept a_t_thought a_t_draft a_t_filling a_t_moves a_t_text a_t_tapes t_hasKept t_toldKind t_work)) (F0 m 48 ls []) := by
  unfold b_X7_taken_48 at hf
  have hx := C.1
  have hb := C.2.1
  have hown := C.2.2.2.2.1
  have hts := C.2.2.2.2.2.1
  have hN := C.2.2.2.2.2.2.2.2.2.2
  refine lv_iconst (pc := 48) hx hb dX7_taken_48 ic_1 ?_
  refine lv_goto (tgt := 53) (pc := 49) hx hb dX7_taken_49 (by decide) ?_
  exact k_X7_taken_53 C (t_hasKept) (t_toldKind) (t_work) ((1 : Int32)) hf S (lv_sub hl [0] rfl)
set_option maxRecDepth 100000 in
set_option maxHeartbeats 4000000 in
theorem k_X7_taken_52 (C : Cx p s m args meth c cX7_taken (some .int) 3 RX7 G A) (t_hasKept : Int32) (t_toldKind : Int32) (t_work : Int32) {H : Heap} {locs : List Loc} {ls : Array Slot} (hf : b_X7_taken_52 t_toldKind = some r) (S : St G A s.heap H locs (w_X7_taken G a_t a_t_now a_t_kept a_t_thought a_t_draft a_t_filling a_t_moves a_t_text a_t_tapes t_hasKept t_toldKind t_work)) (hl : lv_has ls 3 [(0, .ref a_t)]) : W p l e rm_X7_taken s m args below meth c H locs 0 0 (QI G below args s A r (w_X7_taken G a_t a_t_now a_t_kept a_t_thought a_t_draft a_t_filling a_t_moves a_t_text a_t_tapes t_hasKept t_toldKind t_work)) (F0 m 52 ls []) := by
  unfold b_X7_taken_52 at hf
  have hx := C.1
  have hb := C.2.1
  have hown := C.2.2.2.2.1
  have hts := C.2.2.2.2.2.1
  have hN := C.2.2.2.2.2.2.2.2.2.2
  refine lv_iconst (pc := 52) hx hb dX7_taken_52 ic_0 ?_
  exact k_X7_taken_53 C (t_hasKept) (t_toldKind) (t_work) ((0 : Int32)) hf S (lv_sub hl [0] rfl)
set_option maxRecDepth 100000 in
set_option maxHeartbeats 4000000 in
theorem c_X7_taken (l : Launch) (G : GE) (a_t a_t_now a_t_kept a_t_thought a_t_draft a_t_filling a_t_moves a_t_text a_t_tapes : Nat) (t_hasKept : Int32) (t_toldKind : Int32) (t_work : Int32) (x1 : Int32) (r : Int32) (hf : f_X7_taken t_toldKind x1 = some r) : CI l G yX7_taken kw_X7_taken rm_X7_taken [.ref a_t, .int x1] (w_X7_taken G a_t a_t_now a_t_kept a_t_thought a_t_draft a_t_filling a_t_moves a_t_text a_t_tapes t_hasKept t_toldKind t_work) r (w_X7_taken G a_t a_t_now a_t_kept a_t_thought a_t_draft a_t_filling a_t_moves a_t_text a_t_tapes t_hasKept t_toldKind t_work) := by
  refine en_I (cc := cX7_taken) (maxL := 3) (ret := (some .int)) (by decide +kernel) (Nat.le_of_ble_eq_true rfl) ?_
  intro p e s m args below meth c A ls C S hl
  have hl : lv_has ls 3 [(0, .ref a_t), (1, .int x1)] := hl
  have C : Cx p s m args meth c cX7_taken (some .int) 3 RX7 G A := C
  unfold f_X7_taken at hf
  have hx := C.1
  have hb := C.2.1
  have hown := C.2.2.2.2.1
  have hts := C.2.2.2.2.2.1
  have hN := C.2.2.2.2.2.2.2.2.2.2
  refine lv_iload_n (pc := 0) hx hb dX7_taken_0 rfl (lv_at hl 1 rfl) ?_
  refine lv_iconst (pc := 1) hx hb dX7_taken_1 ic_4 ?_
  obtain ⟨r1, hq1, hf⟩ := bd_e hf
  refine x_sI (pc := 2) (As := [.int x1, .int (4 : Int32)]) (rest := []) (isC := []) (ws' := (w_X7_taken G a_t a_t_now a_t_kept a_t_thought a_t_draft a_t_filling a_t_moves a_t_text a_t_tapes t_hasKept t_toldKind t_work)) C S (c_X7_isUpTo l G x1 (4 : Int32) r1 hq1) (u_X7_taken_X7_isUpTo_63 hts) rfl rfl rfl rfl rfl hl.1 rfl (Nat.le_of_ble_eq_true rfl) dX7_taken_2 (fun H locs S => ?_)
  refine lv_if_ne (tgt := 11) (pc := 5) hx hb dX7_taken_5 (by decide) (fun c2 => ?_) (fun c2 => ?_)
  · have hf := ifn c2 hf
    refine lv_aload_n (pc := 11) hx hb dX7_taken_11 rfl (lv_at hl 0 rfl) ?_
    refine x_get (pc := 12) (ci := 7) (T := TX7) (v := .int t_toldKind) C S 0 rfl rfl inlX7 9 (by decide) rfl qf_7_59 rfl dX7_taken_12 ?_
    refine lv_bipush (pc := 15) hx hb dX7_taken_15 bc_m5 ?_
    refine lv_icmp_ne (tgt := 23) (pc := 17) hx hb dX7_taken_17 (by decide) (fun c3 => ?_) (fun c3 => ?_)
    · have hf := ifn c3 hf
      refine lv_iload_n (pc := 23) hx hb dX7_taken_23 rfl (lv_at hl 1 rfl) ?_
      refine lv_if_eq (tgt := 48) (pc := 24) hx hb dX7_taken_24 (by decide) (fun c4 => ?_) (fun c4 => ?_)
      · have hf := ifp c4 hf
        exact k_X7_taken_48 C (t_hasKept) (t_toldKind) (t_work) hf S (lv_sub hl [0] rfl)
      · have hf := ifn c4 hf
        refine lv_iload_n (pc := 27) hx hb dX7_taken_27 rfl (lv_at hl 1 rfl) ?_
        refine lv_aload_n (pc := 28) hx hb dX7_taken_28 rfl (lv_at hl 0 rfl) ?_
        refine x_get (pc := 29) (ci := 7) (T := TX7) (v := .int t_toldKind) C S 0 rfl rfl inlX7 9 (by decide) rfl qf_7_59 rfl dX7_taken_29 ?_
        refine lv_icmp_eq (tgt := 48) (pc := 32) hx hb dX7_taken_32 (by decide) (fun c5 => ?_) (fun c5 => ?_)
        · have hf := ifp c5 hf
          exact k_X7_taken_48 C (t_hasKept) (t_toldKind) (t_work) hf S (lv_sub hl [0] rfl)
        · have hf := ifn c5 hf
          refine lv_iload_n (pc := 35) hx hb dX7_taken_35 rfl (lv_at hl 1 rfl) ?_
          refine lv_iconst (pc := 36) hx hb dX7_taken_36 ic_4 ?_
          refine lv_icmp_ne (tgt := 52) (pc := 37) hx hb dX7_taken_37 (by decide) (fun c6 => ?_) (fun c6 => ?_)
          · have hf := ifn c6 hf
            exact k_X7_taken_52 C (t_hasKept) (t_toldKind) (t_work) hf S (lv_sub hl [0] rfl)
          · have hf := ifp c6 hf
            refine lv_aload_n (pc := 40) hx hb dX7_taken_40 rfl (lv_at hl 0 rfl) ?_
            refine x_get (pc := 41) (ci := 7) (T := TX7) (v := .int t_toldKind) C S 0 rfl rfl inlX7 9 (by decide) rfl qf_7_59 rfl dX7_taken_41 ?_
            refine lv_iconst (pc := 44) hx hb dX7_taken_44 ic_1 ?_
            refine lv_icmp_eq (tgt := 52) (pc := 45) hx hb dX7_taken_45 (by decide) (fun c7 => ?_) (fun c7 => ?_)
            · have hf := ifp c7 hf
              exact k_X7_taken_52 C (t_hasKept) (t_toldKind) (t_work) hf S (lv_sub hl [0] rfl)
            · have hf := ifn c7 hf
              exact k_X7_taken_48 C (t_hasKept) (t_toldKind) (t_work) hf S (lv_sub hl [0] rfl)
    · have hf := ifp c3 hf
      refine lv_bipush (pc := 20) hx hb dX7_taken_20 bc_m11 ?_
      cases hf
      exact x_iret (pc := 22) C S dX7_taken_22
  · have hf := ifp c2 hf
    refine lv_bipush (pc := 8) hx hb dX7_taken_8 bc_m2 ?_
    cases hf
    exact x_iret (pc := 10) C S dX7_taken_10
end

abbrev rm_X7_tape : Room := { frames := 1, cells := 0, slots := 0, locals := 24 }
abbrev kw_X7_tape : Cond := .code yX7_tape cX7_tape 4 (some .int)
abbrev w_X7_tape (G : GE) (a_t a_t_now a_t_kept a_t_thought a_t_draft a_t_filling a_t_moves a_t_text a_t_tapes a_t_tapes_sorts a_t_tapes_sizes a_t_tapes_items : Nat) (t_hasKept : Int32) (t_toldKind : Int32) (t_work : Int32) (t_tapes_sorts : Nat → Int32) (t_tapes_sizes : Nat → Int32) (t_tapes_items : Nat → Int64) : va_W := [(a_t, ob 7 [.ref a_t_now, .ref a_t_kept, .ref a_t_thought, .ref a_t_draft, .ref a_t_filling, .ref a_t_moves, .ref a_t_text, .ref a_t_tapes, .int t_hasKept, .int t_toldKind, .int t_work]), (a_t_tapes, ob 5 [.ref a_t_tapes_sorts, .ref a_t_tapes_sizes, .ref a_t_tapes_items]), (a_t_tapes_sorts, aI G 6 t_tapes_sorts), (a_t_tapes_sizes, aI G 6 t_tapes_sizes), (a_t_tapes_items, aJ G 360 t_tapes_items)]
theorem u_X7_tape_X5_isTape_341 {s : State} {args : Array Value} (hts : ∀ w ∈ WU, w.before args s = true) : CallW rm_X7_tape s args RX7 RX5 341 yX5_isTape cX5_isTape 2 (some .boolean) (kw_X5_isTape :: WU) rm_X5_isTape 0 0 1 := cwV 1 hts (gV qm_7_341 qi_X5_isTape ql_X5_isTape qn_5 qc_X5_isTape) rfl rfl rfl (by decide +kernel) ⟨Nat.le_of_ble_eq_true rfl, Nat.le_of_ble_eq_true rfl⟩
theorem u_X7_tape_X7_isUpTo_63 {s : State} {args : Array Value} (hts : ∀ w ∈ WU, w.before args s = true) : CallB rm_X7_tape s args RX7 63 yX7_isUpTo cX7_isUpTo 2 (some .boolean) (kw_X7_isUpTo :: WU) rm_X7_isUpTo 0 0 2 ∧ (Cond.static yX7_isUpTo).before args s = true := va_cwS 2 hts (gS qm_7_63 qs_X7_isUpTo qn_7 qc_X7_isUpTo) rfl rfl rfl (by decide +kernel) ⟨Nat.le_of_ble_eq_true rfl, Nat.le_of_ble_eq_true rfl⟩
theorem u_X7_tape_X5_become_361 {s : State} {args : Array Value} (hts : ∀ w ∈ WU, w.before args s = true) : CallW rm_X7_tape s args RX7 RX5 361 yX5_become cX5_become 5 none (kw_X5_become :: WU) rm_X5_become 0 0 3 := cwV 3 hts (gV qm_7_361 qi_X5_become ql_X5_become qn_5 qc_X5_become) rfl rfl rfl (by decide +kernel) ⟨Nat.le_of_ble_eq_true rfl, Nat.le_of_ble_eq_true rfl⟩
section
variable {p : Program} {l : Launch} {e : Env} {s : State} {m : MethodId} {args : Array Value} {below : List Frame} {meth : Method} {c : Code} {A : Nat → Prop} {G : GE} {a_t a_t_now a_t_kept a_t_thought a_t_draft a_t_filling a_t_moves a_t_text a_t_tapes a_t_tapes_sorts a_t_tapes_sizes a_t_tapes_items : Nat} {r : Int32} {z_t_tapes_sorts : Nat → Int32} {z_t_tapes_sizes : Nat → Int32} {z_t_tapes_items : Nat → Int64}
set_option maxRecDepth 100000 in
set_option maxHeartbeats 4000000 in
theorem c_X7_tape (l : Launch) (G : GE) (a_t a_t_now a_t_kept a_t_thought a_t_draft a_t_filling a_t_moves a_t_text a_t_tapes a_t_tapes_sorts a_t_tapes_sizes a_t_tapes_items : Nat) (t_hasKept : Int32) (t_toldKind : Int32) (t_work : Int32) (t_tapes_sorts : Nat → Int32) (t_tapes_sizes : Nat → Int32) (t_tapes_items : Nat → Int64) (x1 : Int32) (x2 : Int32) (x3 : Int32) (r : Int32) (z_t_tapes_sorts : Nat → Int32) (z_t_tapes_sizes : Nat → Int32) (z_t_tapes_items : Nat → Int64) (hf : f_X7_tape t_tapes_sorts t_tapes_sizes t_tapes_items x1 x2 x3 = some (r, z_t_tapes_sorts, z_t_tapes_sizes, z_t_tapes_items)) : CI l G yX7_tape kw_X7_tape rm_X7_tape [.ref a_t, .int x1, .int x2, .int x3] (w_X7_tape G a_t a_t_now a_t_kept a_t_thought a_t_draft a_t_filling a_t_moves a_t_text a_t_tapes a_t_tapes_sorts a_t_tapes_sizes a_t_tapes_items t_hasKept t_toldKind t_work t_tapes_sorts t_tapes_sizes t_tapes_items) r (w_X7_tape G a_t a_t_now a_t_kept a_t_thought a_t_draft a_t_filling a_t_moves a_t_text a_t_tapes a_t_tapes_sorts a_t_tapes_sizes a_t_tapes_items t_hasKept t_toldKind t_work z_t_tapes_sorts z_t_tapes_sizes z_t_tapes_items) := by
  refine en_I (cc := cX7_tape) (maxL := 4) (ret := (some .int)) (by decide +kernel) (Nat.le_of_ble_eq_true rfl) ?_
  intro p e s m args below meth c A ls C S hl
  have hl : lv_has ls 4 [(0, .ref a_t), (1, .int x1), (2, .int x2), (3, .int x3)] := hl
  have C : Cx p s m args meth c cX7_tape (some .int) 4 RX7 G A := C
  unfold f_X7_tape at hf
  have hx := C.1
  have hb := C.2.1
  have hown := C.2.2.2.2.1
  have hts := C.2.2.2.2.2.1
  have hN := C.2.2.2.2.2.2.2.2.2.2
  refine lv_aload_n (pc := 0) hx hb dX7_tape_0 rfl (lv_at hl 0 rfl) ?_
  refine x_get (pc := 1) (ci := 7) (T := TX7) (v := .ref a_t_tapes) C S 0 rfl rfl inlX7 7 (by decide) rfl qf_7_55 rfl dX7_tape_1 ?_
  refine lv_iload_n (pc := 4) hx hb dX7_tape_4 rfl (lv_at hl 1 rfl) ?_
  obtain ⟨r1, hq1, hf⟩ := bd_e hf
  refine x_vI (pc := 5) (As := [.int x1]) (rest := []) (isC := [1]) (ws' := (w_X7_tape G a_t a_t_now a_t_kept a_t_thought a_t_draft a_t_filling a_t_moves a_t_text a_t_tapes a_t_tapes_sorts a_t_tapes_sizes a_t_tapes_items t_hasKept t_toldKind t_work t_tapes_sorts t_tapes_sizes t_tapes_items)) C S (c_X5_isTape l G a_t_tapes a_t_tapes_sorts a_t_tapes_sizes a_t_tapes_items x1 r1 hq1) (u_X7_tape_X5_isTape_341 hts) (ci := 5) rfl 1 rfl rfl rfl rfl rfl rfl hl.1 rfl (Nat.le_of_ble_eq_true rfl) dX7_tape_5 (fun H locs S => ?_)
  refine lv_if_ne (tgt := 13) (pc := 8) hx hb dX7_tape_8 (by decide) (fun c2 => ?_) (fun c2 => ?_)
  · have hf := ifn c2 hf
    refine lv_iload_n (pc := 13) hx hb dX7_tape_13 rfl (lv_at hl 2 rfl) ?_
    refine lv_iconst (pc := 14) hx hb dX7_tape_14 ic_m1 ?_
    refine lv_icmp_ne (tgt := 30) (pc := 15) hx hb dX7_tape_15 (by decide) (fun c3 => ?_) (fun c3 => ?_)
    · have hf := ifn c3 hf
      refine lv_iload_n (pc := 30) hx hb dX7_tape_30 rfl (lv_at hl 2 rfl) ?_
      refine lv_iconst (pc := 31) hx hb dX7_tape_31 ic_4 ?_
      obtain ⟨r4, hq4, hf⟩ := bd_e hf
      refine x_sI (pc := 32) (As := [.int x2, .int (4 : Int32)]) (rest := []) (isC := []) (ws' := (w_X7_tape G a_t a_t_now a_t_kept a_t_thought a_t_draft a_t_filling a_t_moves a_t_text a_t_tapes a_t_tapes_sorts a_t_tapes_sizes a_t_tapes_items t_hasKept t_toldKind t_work t_tapes_sorts t_tapes_sizes t_tapes_items)) C S (c_X7_isUpTo l G x2 (4 : Int32) r4 hq4) (u_X7_tape_X7_isUpTo_63 hts) rfl rfl rfl rfl rfl hl.1 rfl (Nat.le_of_ble_eq_true rfl) dX7_tape_32 (fun H locs S => ?_)
      refine lv_if_eq (tgt := 44) (pc := 35) hx hb dX7_tape_35 (by decide) (fun c5 => ?_) (fun c5 => ?_)
      · have hf := ifp c5 hf
        refine lv_bipush (pc := 44) hx hb dX7_tape_44 bc_m2 ?_
        cases hf
        exact x_iret (pc := 46) C S dX7_tape_46
      · have hf := ifn c5 hf
        refine lv_iload_n (pc := 38) hx hb dX7_tape_38 rfl (lv_at hl 3 rfl) ?_
        refine lv_bipush (pc := 39) hx hb dX7_tape_39 bc_60 ?_
        refine lv_icmp_le (tgt := 47) (pc := 41) hx hb dX7_tape_41 (by decide) (fun c6 => ?_) (fun c6 => ?_)
        · have hf := ifp c6 hf
          refine lv_iload_n (pc := 47) hx hb dX7_tape_47 rfl (lv_at hl 3 rfl) ?_
          refine lv_if_ge (tgt := 54) (pc := 48) hx hb dX7_tape_48 (by decide) (fun c7 => ?_) (fun c7 => ?_)
          · have hf := ifp c7 hf
            refine lv_aload_n (pc := 54) hx hb dX7_tape_54 rfl (lv_at hl 0 rfl) ?_
            refine x_get (pc := 55) (ci := 7) (T := TX7) (v := .ref a_t_tapes) C S 0 rfl rfl inlX7 7 (by decide) rfl qf_7_55 rfl dX7_tape_55 ?_
            refine lv_iload_n (pc := 58) hx hb dX7_tape_58 rfl (lv_at hl 1 rfl) ?_
            refine lv_iload_n (pc := 59) hx hb dX7_tape_59 rfl (lv_at hl 2 rfl) ?_
            refine lv_iload_n (pc := 60) hx hb dX7_tape_60 rfl (lv_at hl 3 rfl) ?_
            obtain ⟨⟨o8_t_tapes_sorts, o8_t_tapes_sizes, o8_t_tapes_items⟩, hq8, hf⟩ := bd_e hf
            refine x_vV (pc := 61) (As := [.int x1, .int x2, .int x3]) (rest := []) (isC := [1, 2, 3, 4]) (ws' := (w_X7_tape G a_t a_t_now a_t_kept a_t_thought a_t_draft a_t_filling a_t_moves a_t_text a_t_tapes a_t_tapes_sorts a_t_tapes_sizes a_t_tapes_items t_hasKept t_toldKind t_work o8_t_tapes_sorts o8_t_tapes_sizes o8_t_tapes_items)) C S (c_X5_become l G a_t_tapes a_t_tapes_sorts a_t_tapes_sizes a_t_tapes_items t_tapes_sorts t_tapes_sizes t_tapes_items x1 x2 x3 o8_t_tapes_sorts o8_t_tapes_sizes o8_t_tapes_items hq8) (u_X7_tape_X5_become_361 hts) (ci := 5) rfl 1 rfl rfl rfl rfl rfl rfl hl.1 rfl (Nat.le_of_ble_eq_true rfl) dX7_tape_61 (fun H locs S => ?_)
            refine lv_iconst (pc := 64) hx hb dX7_tape_64 ic_1 ?_
            cases hf
            exact x_iret (pc := 65) C S dX7_tape_65
          · have hf := ifn c7 hf
            refine lv_bipush (pc := 51) hx hb dX7_tape_51 bc_m14 ?_
            cases hf
            exact x_iret (pc := 53) C S dX7_tape_53
        · have hf := ifn c6 hf
          refine lv_bipush (pc := 44) hx hb dX7_tape_44 bc_m2 ?_
          cases hf
          exact x_iret (pc := 46) C S dX7_tape_46
    · have hf := ifp c3 hf
      refine lv_aload_n (pc := 18) hx hb dX7_tape_18 rfl (lv_at hl 0 rfl) ?_
      refine x_get (pc := 19) (ci := 7) (T := TX7) (v := .ref a_t_tapes) C S 0 rfl rfl inlX7 7 (by decide) rfl qf_7_55 rfl dX7_tape_19 ?_
      refine lv_iload_n (pc := 22) hx hb dX7_tape_22 rfl (lv_at hl 1 rfl) ?_
      refine lv_iconst (pc := 23) hx hb dX7_tape_23 ic_m1 ?_
      refine lv_iconst (pc := 24) hx hb dX7_tape_24 ic_0 ?_
      obtain ⟨⟨o9_t_tapes_sorts, o9_t_tapes_sizes, o9_t_tapes_items⟩, hq9, hf⟩ := bd_e hf
      refine x_vV (pc := 25) (As := [.int x1, .int (-1 : Int32), .int (0 : Int32)]) (rest := []) (isC := [1, 2, 3, 4]) (ws' := (w_X7_tape G a_t a_t_now a_t_kept a_t_thought a_t_draft a_t_filling a_t_moves a_t_text a_t_tapes a_t_tapes_sorts a_t_tapes_sizes a_t_tapes_items t_hasKept t_toldKind t_work o9_t_tapes_sorts o9_t_tapes_sizes o9_t_tapes_items)) C S (c_X5_become l G a_t_tapes a_t_tapes_sorts a_t_tapes_sizes a_t_tapes_items t_tapes_sorts t_tapes_sizes t_tapes_items x1 (-1 : Int32) (0 : Int32) o9_t_tapes_sorts o9_t_tapes_sizes o9_t_tapes_items hq9) (u_X7_tape_X5_become_361 hts) (ci := 5) rfl 1 rfl rfl rfl rfl rfl rfl hl.1 rfl (Nat.le_of_ble_eq_true rfl) dX7_tape_25 (fun H locs S => ?_)
      refine lv_iconst (pc := 28) hx hb dX7_tape_28 ic_1 ?_
      cases hf
      exact x_iret (pc := 29) C S dX7_tape_29
  · have hf := ifp c2 hf
    refine lv_iconst (pc := 11) hx hb dX7_tape_11 ic_m1 ?_
    cases hf
    exact x_iret (pc := 12) C S dX7_tape_12
end

abbrev rm_X7_told : Room := { frames := 5, cells := 0, slots := 0, locals := 115 }
abbrev kw_X7_told : Cond := .code yX7_told cX7_told 2 (some .int)
abbrev w_X7_told (G : GE) (a_t a_t_now a_t_kept a_t_thought a_t_draft a_t_filling a_t_moves a_t_text a_t_tapes a_t_now_facts a_t_now_roundsOf a_t_now_locked a_t_now_rules a_t_now_sizes a_t_now_rows a_t_now_seen a_t_now_plan a_t_now_book a_t_draft_row a_t_draft_comes a_t_draft_begins a_t_draft_slacks : Nat) (t_hasKept : Int32) (t_toldKind : Int32) (t_work : Int32) (t_now_stopCount : Int32) (t_now_metric : Int32) (t_now_fixed : Int32) (t_now_facts : Nat → Int32) (t_now_roundsOf : Nat → Int32) (t_now_locked : Nat → Int32) (t_now_rules : Nat → Int32) (t_now_sizes : Nat → Int32) (t_now_rows : Nat → Int32) (t_draft_round : Int32) (t_draft_size : Int32) (t_draft_back : Int32) (t_draft_loads : Int32) (t_draft_miles : Int32) (t_draft_waits : Int32) (t_draft_lateAt : Int32) (t_draft_later : Int32) (t_draft_row : Nat → Int32) (t_draft_comes : Nat → Int32) (t_draft_begins : Nat → Int32) : va_W := [(a_t, ob 7 [.ref a_t_now, .ref a_t_kept, .ref a_t_thought, .ref a_t_draft, .ref a_t_filling, .ref a_t_moves, .ref a_t_text, .ref a_t_tapes, .int t_hasKept, .int t_toldKind, .int t_work]), (a_t_now, ob 6 [.ref a_t_now_facts, .ref a_t_now_roundsOf, .ref a_t_now_locked, .ref a_t_now_rules, .ref a_t_now_sizes, .ref a_t_now_rows, .ref a_t_now_seen, .ref a_t_now_plan, .ref a_t_now_book, .int t_now_stopCount, .int t_now_metric, .int t_now_fixed]), (a_t_now_facts, aI G 102 t_now_facts), (a_t_now_roundsOf, aI G 16 t_now_roundsOf), (a_t_now_locked, aZ G 16 t_now_locked), (a_t_now_rules, aI G 12 t_now_rules), (a_t_now_sizes, aI G 4 t_now_sizes), (a_t_now_rows, aI G 64 t_now_rows), (a_t_draft, ob 0 [.ref a_t_draft_row, .ref a_t_draft_comes, .ref a_t_draft_begins, .ref a_t_draft_slacks, .int t_draft_round, .int t_draft_size, .int t_draft_back, .int t_draft_loads, .int t_draft_miles, .int t_draft_waits, .int t_draft_lateAt, .int t_draft_later]), (a_t_draft_row, aI G 16 t_draft_row), (a_t_draft_comes, aI G 16 t_draft_comes), (a_t_draft_begins, aI G 16 t_draft_begins)]
theorem u_X7_told_X6_cost_186 {s : State} {args : Array Value} (hts : ∀ w ∈ WU, w.before args s = true) : CallW rm_X7_told s args RX7 RX6 186 yX6_cost cX6_cost 1 (some .int) (kw_X6_cost :: WU) rm_X6_cost 0 0 0 := cwV 0 hts (gV qm_7_186 qi_X6_cost ql_X6_cost qn_6 qc_X6_cost) rfl rfl rfl (by decide +kernel) ⟨Nat.le_of_ble_eq_true rfl, Nat.le_of_ble_eq_true rfl⟩
theorem u_X7_told_X6_milesOfAll_239 {s : State} {args : Array Value} (hts : ∀ w ∈ WU, w.before args s = true) : CallW rm_X7_told s args RX7 RX6 239 yX6_milesOfAll cX6_milesOfAll 3 (some .int) (kw_X6_milesOfAll :: WU) rm_X6_milesOfAll 0 0 0 := cwV 0 hts (gV qm_7_239 qi_X6_milesOfAll ql_X6_milesOfAll qn_6 qc_X6_milesOfAll) rfl rfl rfl (by decide +kernel) ⟨Nat.le_of_ble_eq_true rfl, Nat.le_of_ble_eq_true rfl⟩
theorem u_X7_told_X6_looseCount_242 {s : State} {args : Array Value} (hts : ∀ w ∈ WU, w.before args s = true) : CallW rm_X7_told s args RX7 RX6 242 yX6_looseCount cX6_looseCount 3 (some .int) (kw_X6_looseCount :: WU) rm_X6_looseCount 0 0 0 := cwV 0 hts (gV qm_7_242 qi_X6_looseCount ql_X6_looseCount qn_6 qc_X6_looseCount) rfl rfl rfl (by decide +kernel) ⟨Nat.le_of_ble_eq_true rfl, Nat.le_of_ble_eq_true rfl⟩
theorem u_X7_told_X6_lockedCount_245 {s : State} {args : Array Value} (hts : ∀ w ∈ WU, w.before args s = true) : CallW rm_X7_told s args RX7 RX6 245 yX6_lockedCount cX6_lockedCount 3 (some .int) (kw_X6_lockedCount :: WU) rm_X6_lockedCount 0 0 0 := cwV 0 hts (gV qm_7_245 qi_X6_lockedCount ql_X6_lockedCount qn_6 qc_X6_lockedCount) rfl rfl rfl (by decide +kernel) ⟨Nat.le_of_ble_eq_true rfl, Nat.le_of_ble_eq_true rfl⟩
theorem u_X7_told_X6_usedRounds_248 {s : State} {args : Array Value} (hts : ∀ w ∈ WU, w.before args s = true) : CallW rm_X7_told s args RX7 RX6 248 yX6_usedRounds cX6_usedRounds 3 (some .int) (kw_X6_usedRounds :: WU) rm_X6_usedRounds 0 0 0 := cwV 0 hts (gV qm_7_248 qi_X6_usedRounds ql_X6_usedRounds qn_6 qc_X6_usedRounds) rfl rfl rfl (by decide +kernel) ⟨Nat.le_of_ble_eq_true rfl, Nat.le_of_ble_eq_true rfl⟩
theorem u_X7_told_X7_waitsOfAll_251 {s : State} {args : Array Value} (hts : ∀ w ∈ WU, w.before args s = true) : CallW rm_X7_told s args RX7 RX7 251 yX7_waitsOfAll cX7_waitsOfAll 3 (some .int) (kw_X7_waitsOfAll :: WU) rm_X7_waitsOfAll 0 0 0 := cwV 0 hts (gV qm_7_251 qi_X7_waitsOfAll ql_X7_waitsOfAll qn_7 qc_X7_waitsOfAll) rfl rfl rfl (by decide +kernel) ⟨Nat.le_of_ble_eq_true rfl, Nat.le_of_ble_eq_true rfl⟩
section
variable {p : Program} {l : Launch} {e : Env} {s : State} {m : MethodId} {args : Array Value} {below : List Frame} {meth : Method} {c : Code} {A : Nat → Prop} {G : GE} {a_t a_t_now a_t_kept a_t_thought a_t_draft a_t_filling a_t_moves a_t_text a_t_tapes a_t_now_facts a_t_now_roundsOf a_t_now_locked a_t_now_rules a_t_now_sizes a_t_now_rows a_t_now_seen a_t_now_plan a_t_now_book a_t_draft_row a_t_draft_comes a_t_draft_begins a_t_draft_slacks : Nat} {r : Int32} {z_t_draft_row : Nat → Int32} {z_t_draft_comes : Nat → Int32} {z_t_draft_begins : Nat → Int32} {z_t_draft_round : Int32} {z_t_draft_size : Int32} {z_t_draft_back : Int32} {z_t_draft_loads : Int32} {z_t_draft_miles : Int32} {z_t_draft_waits : Int32} {z_t_draft_lateAt : Int32}
set_option maxRecDepth 100000 in
set_option maxHeartbeats 4000000 in
theorem c_X7_told (l : Launch) (G : GE) (a_t a_t_now a_t_kept a_t_thought a_t_draft a_t_filling a_t_moves a_t_text a_t_tapes a_t_now_facts a_t_now_roundsOf a_t_now_locked a_t_now_rules a_t_now_sizes a_t_now_rows a_t_now_seen a_t_now_plan a_t_now_book a_t_draft_row a_t_draft_comes a_t_draft_begins a_t_draft_slacks : Nat) (t_hasKept : Int32) (t_toldKind : Int32) (t_work : Int32) (t_now_stopCount : Int32) (t_now_metric : Int32) (t_now_fixed : Int32) (t_now_facts : Nat → Int32) (t_now_roundsOf : Nat → Int32) (t_now_locked : Nat → Int32) (t_now_rules : Nat → Int32) (t_now_sizes : Nat → Int32) (t_now_rows : Nat → Int32) (t_draft_round : Int32) (t_draft_size : Int32) (t_draft_back : Int32) (t_draft_loads : Int32) (t_draft_miles : Int32) (t_draft_waits : Int32) (t_draft_lateAt : Int32) (t_draft_later : Int32) (t_draft_row : Nat → Int32) (t_draft_comes : Nat → Int32) (t_draft_begins : Nat → Int32) (x1 : Int32) (r : Int32) (z_t_draft_row : Nat → Int32) (z_t_draft_comes : Nat → Int32) (z_t_draft_begins : Nat → Int32) (z_t_draft_round : Int32) (z_t_draft_size : Int32) (z_t_draft_back : Int32) (z_t_draft_loads : Int32) (z_t_draft_miles : Int32) (z_t_draft_waits : Int32) (z_t_draft_lateAt : Int32) (hf : f_X7_told t_now_facts t_now_roundsOf t_now_locked t_now_rules t_now_sizes t_now_rows t_now_stopCount t_now_metric t_now_fixed t_draft_row t_draft_comes t_draft_begins t_draft_round t_draft_size t_draft_back t_draft_loads t_draft_miles t_draft_waits t_draft_lateAt x1 = some (r, z_t_draft_row, z_t_draft_comes, z_t_draft_begins, z_t_draft_round, z_t_draft_size, z_t_draft_back, z_t_draft_loads, z_t_draft_miles, z_t_draft_waits, z_t_draft_lateAt)) : CI l G yX7_told kw_X7_told rm_X7_told [.ref a_t, .int x1] (w_X7_told G a_t a_t_now a_t_kept a_t_thought a_t_draft a_t_filling a_t_moves a_t_text a_t_tapes a_t_now_facts a_t_now_roundsOf a_t_now_locked a_t_now_rules a_t_now_sizes a_t_now_rows a_t_now_seen a_t_now_plan a_t_now_book a_t_draft_row a_t_draft_comes a_t_draft_begins a_t_draft_slacks t_hasKept t_toldKind t_work t_now_stopCount t_now_metric t_now_fixed t_now_facts t_now_roundsOf t_now_locked t_now_rules t_now_sizes t_now_rows t_draft_round t_draft_size t_draft_back t_draft_loads t_draft_miles t_draft_waits t_draft_lateAt t_draft_later t_draft_row t_draft_comes t_draft_begins) r (w_X7_told G a_t a_t_now a_t_kept a_t_thought a_t_draft a_t_filling a_t_moves a_t_text a_t_tapes a_t_now_facts a_t_now_roundsOf a_t_now_locked a_t_now_rules a_t_now_sizes a_t_now_rows a_t_now_seen a_t_now_plan a_t_now_book a_t_draft_row a_t_draft_comes a_t_draft_begins a_t_draft_slacks t_hasKept t_toldKind t_work t_now_stopCount t_now_metric t_now_fixed t_now_facts t_now_roundsOf t_now_locked t_now_rules t_now_sizes t_now_rows z_t_draft_round z_t_draft_size z_t_draft_back z_t_draft_loads z_t_draft_miles z_t_draft_waits z_t_draft_lateAt t_draft_later z_t_draft_row z_t_draft_comes z_t_draft_begins) := by
  refine en_I (cc := cX7_told) (maxL := 2) (ret := (some .int)) (by decide +kernel) (Nat.le_of_ble_eq_true rfl) ?_
  intro p e s m args below meth c A ls C S hl
  have hl : lv_has ls 2 [(0, .ref a_t), (1, .int x1)] := hl
  have C : Cx p s m args meth c cX7_told (some .int) 2 RX7 G A := C
  unfold f_X7_told at hf
  have hx := C.1
  have hb := C.2.1
  have hown := C.2.2.2.2.1
  have hts := C.2.2.2.2.2.1
  have hN := C.2.2.2.2.2.2.2.2.2.2
  refine lv_iload_n (pc := 0) hx hb dX7_told_0 rfl (lv_at hl 1 rfl) ?_
  by_cases s1_0 : x1 = (0 : Int32)
  · have hf := ifp s1_0 hf
    refine lv_tableIn (tgt := 40) (off := 39) (x := x1) (pc := 1) hx hb dX7_told_1 (by rw [s1_0]; decide) (by rw [s1_0]; decide) (by rw [s1_0]; decide) (by decide) ?_
    refine lv_aload_n (pc := 40) hx hb dX7_told_40 rfl (lv_at hl 0 rfl) ?_
    refine x_get (pc := 41) (ci := 7) (T := TX7) (v := .ref a_t_now) C S 0 rfl rfl inlX7 0 (by decide) rfl qf_7_14 rfl dX7_told_41 ?_
    obtain ⟨r2, hq2, hf⟩ := bd_e hf
    refine x_vI (pc := 44) (As := []) (rest := []) (isC := [1, 2, 6, 7]) (ws' := (w_X7_told G a_t a_t_now a_t_kept a_t_thought a_t_draft a_t_filling a_t_moves a_t_text a_t_tapes a_t_now_facts a_t_now_roundsOf a_t_now_locked a_t_now_rules a_t_now_sizes a_t_now_rows a_t_now_seen a_t_now_plan a_t_now_book a_t_draft_row a_t_draft_comes a_t_draft_begins a_t_draft_slacks t_hasKept t_toldKind t_work t_now_stopCount t_now_metric t_now_fixed t_now_facts t_now_roundsOf t_now_locked t_now_rules t_now_sizes t_now_rows t_draft_round t_draft_size t_draft_back t_draft_loads t_draft_miles t_draft_waits t_draft_lateAt t_draft_later t_draft_row t_draft_comes t_draft_begins)) C S (c_X6_cost l G a_t_now a_t_now_facts a_t_now_roundsOf a_t_now_locked a_t_now_rules a_t_now_sizes a_t_now_rows a_t_now_seen a_t_now_plan a_t_now_book t_now_stopCount t_now_metric t_now_fixed t_now_facts t_now_sizes t_now_rows r2 hq2) (u_X7_told_X6_cost_186 hts) (ci := 6) rfl 1 rfl rfl rfl rfl rfl rfl hl.1 rfl (Nat.le_of_ble_eq_true rfl) dX7_told_44 (fun H locs S => ?_)
    cases hf
    exact x_iret (pc := 47) C S dX7_told_47
  have hf := ifn s1_0 hf
  by_cases s1_1 : x1 = (1 : Int32)
  · have hf := ifp s1_1 hf
    refine lv_tableIn (tgt := 48) (off := 47) (x := x1) (pc := 1) hx hb dX7_told_1 (by rw [s1_1]; decide) (by rw [s1_1]; decide) (by rw [s1_1]; decide) (by decide) ?_
    refine lv_aload_n (pc := 48) hx hb dX7_told_48 rfl (lv_at hl 0 rfl) ?_
    refine x_get (pc := 49) (ci := 7) (T := TX7) (v := .ref a_t_now) C S 0 rfl rfl inlX7 0 (by decide) rfl qf_7_14 rfl dX7_told_49 ?_
    obtain ⟨r3, hq3, hf⟩ := bd_e hf
    refine x_vI (pc := 52) (As := []) (rest := []) (isC := [1, 2, 6, 7]) (ws' := (w_X7_told G a_t a_t_now a_t_kept a_t_thought a_t_draft a_t_filling a_t_moves a_t_text a_t_tapes a_t_now_facts a_t_now_roundsOf a_t_now_locked a_t_now_rules a_t_now_sizes a_t_now_rows a_t_now_seen a_t_now_plan a_t_now_book a_t_draft_row a_t_draft_comes a_t_draft_begins a_t_draft_slacks t_hasKept t_toldKind t_work t_now_stopCount t_now_metric t_now_fixed t_now_facts t_now_roundsOf t_now_locked t_now_rules t_now_sizes t_now_rows t_draft_round t_draft_size t_draft_back t_draft_loads t_draft_miles t_draft_waits t_draft_lateAt t_draft_later t_draft_row t_draft_comes t_draft_begins)) C S (c_X6_milesOfAll l G a_t_now a_t_now_facts a_t_now_roundsOf a_t_now_locked a_t_now_rules a_t_now_sizes a_t_now_rows a_t_now_seen a_t_now_plan a_t_now_book t_now_stopCount t_now_metric t_now_fixed t_now_facts t_now_sizes t_now_rows r3 hq3) (u_X7_told_X6_milesOfAll_239 hts) (ci := 6) rfl 1 rfl rfl rfl rfl rfl rfl hl.1 rfl (Nat.le_of_ble_eq_true rfl) dX7_told_52 (fun H locs S => ?_)
    cases hf
    exact x_iret (pc := 55) C S dX7_told_55
  have hf := ifn s1_1 hf
  by_cases s1_2 : x1 = (2 : Int32)
  · have hf := ifp s1_2 hf
    refine lv_tableIn (tgt := 56) (off := 55) (x := x1) (pc := 1) hx hb dX7_told_1 (by rw [s1_2]; decide) (by rw [s1_2]; decide) (by rw [s1_2]; decide) (by decide) ?_
    refine lv_aload_n (pc := 56) hx hb dX7_told_56 rfl (lv_at hl 0 rfl) ?_
    refine x_get (pc := 57) (ci := 7) (T := TX7) (v := .ref a_t_now) C S 0 rfl rfl inlX7 0 (by decide) rfl qf_7_14 rfl dX7_told_57 ?_
    obtain ⟨r4, hq4, hf⟩ := bd_e hf
    refine x_vI (pc := 60) (As := []) (rest := []) (isC := [1, 3]) (ws' := (w_X7_told G a_t a_t_now a_t_kept a_t_thought a_t_draft a_t_filling a_t_moves a_t_text a_t_tapes a_t_now_facts a_t_now_roundsOf a_t_now_locked a_t_now_rules a_t_now_sizes a_t_now_rows a_t_now_seen a_t_now_plan a_t_now_book a_t_draft_row a_t_draft_comes a_t_draft_begins a_t_draft_slacks t_hasKept t_toldKind t_work t_now_stopCount t_now_metric t_now_fixed t_now_facts t_now_roundsOf t_now_locked t_now_rules t_now_sizes t_now_rows t_draft_round t_draft_size t_draft_back t_draft_loads t_draft_miles t_draft_waits t_draft_lateAt t_draft_later t_draft_row t_draft_comes t_draft_begins)) C S (c_X6_looseCount l G a_t_now a_t_now_facts a_t_now_roundsOf a_t_now_locked a_t_now_rules a_t_now_sizes a_t_now_rows a_t_now_seen a_t_now_plan a_t_now_book t_now_stopCount t_now_metric t_now_fixed t_now_roundsOf r4 hq4) (u_X7_told_X6_looseCount_242 hts) (ci := 6) rfl 1 rfl rfl rfl rfl rfl rfl hl.1 rfl (Nat.le_of_ble_eq_true rfl) dX7_told_60 (fun H locs S => ?_)
    cases hf
    exact x_iret (pc := 63) C S dX7_told_63
  have hf := ifn s1_2 hf
  by_cases s1_3 : x1 = (3 : Int32)
  · have hf := ifp s1_3 hf
    refine lv_tableIn (tgt := 64) (off := 63) (x := x1) (pc := 1) hx hb dX7_told_1 (by rw [s1_3]; decide) (by rw [s1_3]; decide) (by rw [s1_3]; decide) (by decide) ?_
    refine lv_aload_n (pc := 64) hx hb dX7_told_64 rfl (lv_at hl 0 rfl) ?_
    refine x_get (pc := 65) (ci := 7) (T := TX7) (v := .ref a_t_now) C S 0 rfl rfl inlX7 0 (by decide) rfl qf_7_14 rfl dX7_told_65 ?_
    obtain ⟨r5, hq5, hf⟩ := bd_e hf
    refine x_vI (pc := 68) (As := []) (rest := []) (isC := [1, 4]) (ws' := (w_X7_told G a_t a_t_now a_t_kept a_t_thought a_t_draft a_t_filling a_t_moves a_t_text a_t_tapes a_t_now_facts a_t_now_roundsOf a_t_now_locked a_t_now_rules a_t_now_sizes a_t_now_rows a_t_now_seen a_t_now_plan a_t_now_book a_t_draft_row a_t_draft_comes a_t_draft_begins a_t_draft_slacks t_hasKept t_toldKind t_work t_now_stopCount t_now_metric t_now_fixed t_now_facts t_now_roundsOf t_now_locked t_now_rules t_now_sizes t_now_rows t_draft_round t_draft_size t_draft_back t_draft_loads t_draft_miles t_draft_waits t_draft_lateAt t_draft_later t_draft_row t_draft_comes t_draft_begins)) C S (c_X6_lockedCount l G a_t_now a_t_now_facts a_t_now_roundsOf a_t_now_locked a_t_now_rules a_t_now_sizes a_t_now_rows a_t_now_seen a_t_now_plan a_t_now_book t_now_stopCount t_now_metric t_now_fixed t_now_locked r5 hq5) (u_X7_told_X6_lockedCount_245 hts) (ci := 6) rfl 1 rfl rfl rfl rfl rfl rfl hl.1 rfl (Nat.le_of_ble_eq_true rfl) dX7_told_68 (fun H locs S => ?_)
    cases hf
    exact x_iret (pc := 71) C S dX7_told_71
  have hf := ifn s1_3 hf
  by_cases s1_4 : x1 = (4 : Int32)
  · have hf := ifp s1_4 hf
    refine lv_tableIn (tgt := 72) (off := 71) (x := x1) (pc := 1) hx hb dX7_told_1 (by rw [s1_4]; decide) (by rw [s1_4]; decide) (by rw [s1_4]; decide) (by decide) ?_
    refine lv_aload_n (pc := 72) hx hb dX7_told_72 rfl (lv_at hl 0 rfl) ?_
    refine x_get (pc := 73) (ci := 7) (T := TX7) (v := .ref a_t_now) C S 0 rfl rfl inlX7 0 (by decide) rfl qf_7_14 rfl dX7_told_73 ?_
    obtain ⟨r6, hq6, hf⟩ := bd_e hf
    refine x_vI (pc := 76) (As := []) (rest := []) (isC := [1, 6]) (ws' := (w_X7_told G a_t a_t_now a_t_kept a_t_thought a_t_draft a_t_filling a_t_moves a_t_text a_t_tapes a_t_now_facts a_t_now_roundsOf a_t_now_locked a_t_now_rules a_t_now_sizes a_t_now_rows a_t_now_seen a_t_now_plan a_t_now_book a_t_draft_row a_t_draft_comes a_t_draft_begins a_t_draft_slacks t_hasKept t_toldKind t_work t_now_stopCount t_now_metric t_now_fixed t_now_facts t_now_roundsOf t_now_locked t_now_rules t_now_sizes t_now_rows t_draft_round t_draft_size t_draft_back t_draft_loads t_draft_miles t_draft_waits t_draft_lateAt t_draft_later t_draft_row t_draft_comes t_draft_begins)) C S (c_X6_usedRounds l G a_t_now a_t_now_facts a_t_now_roundsOf a_t_now_locked a_t_now_rules a_t_now_sizes a_t_now_rows a_t_now_seen a_t_now_plan a_t_now_book t_now_stopCount t_now_metric t_now_fixed t_now_sizes r6 hq6) (u_X7_told_X6_usedRounds_248 hts) (ci := 6) rfl 1 rfl rfl rfl rfl rfl rfl hl.1 rfl (Nat.le_of_ble_eq_true rfl) dX7_told_76 (fun H locs S => ?_)
    cases hf
    exact x_iret (pc := 79) C S dX7_told_79
  have hf := ifn s1_4 hf
  by_cases s1_5 : x1 = (5 : Int32)
  · have hf := ifp s1_5 hf
    refine lv_tableIn (tgt := 80) (off := 79) (x := x1) (pc := 1) hx hb dX7_told_1 (by rw [s1_5]; decide) (by rw [s1_5]; decide) (by rw [s1_5]; decide) (by decide) ?_
    refine lv_aload_n (pc := 80) hx hb dX7_told_80 rfl (lv_at hl 0 rfl) ?_
    obtain ⟨⟨r7, o7_t_draft_row, o7_t_draft_comes, o7_t_draft_begins, o7_t_draft_round, o7_t_draft_size, o7_t_draft_back, o7_t_draft_loads, o7_t_draft_miles, o7_t_draft_waits, o7_t_draft_lateAt⟩, hq7, hf⟩ := bd_e hf
    refine x_vI (pc := 81) (As := []) (rest := []) (isC := [0, 1, 2, 5, 6, 7, 8, 9, 10, 11]) (ws' := (w_X7_told G a_t a_t_now a_t_kept a_t_thought a_t_draft a_t_filling a_t_moves a_t_text a_t_tapes a_t_now_facts a_t_now_roundsOf a_t_now_locked a_t_now_rules a_t_now_sizes a_t_now_rows a_t_now_seen a_t_now_plan a_t_now_book a_t_draft_row a_t_draft_comes a_t_draft_begins a_t_draft_slacks t_hasKept t_toldKind t_work t_now_stopCount t_now_metric t_now_fixed t_now_facts t_now_roundsOf t_now_locked t_now_rules t_now_sizes t_now_rows o7_t_draft_round o7_t_draft_size o7_t_draft_back o7_t_draft_loads o7_t_draft_miles o7_t_draft_waits o7_t_draft_lateAt t_draft_later o7_t_draft_row o7_t_draft_comes o7_t_draft_begins)) C S (c_X7_waitsOfAll l G a_t a_t_now a_t_kept a_t_thought a_t_draft a_t_filling a_t_moves a_t_text a_t_tapes a_t_now_facts a_t_now_roundsOf a_t_now_locked a_t_now_rules a_t_now_sizes a_t_now_rows a_t_now_seen a_t_now_plan a_t_now_book a_t_draft_row a_t_draft_comes a_t_draft_begins a_t_draft_slacks t_hasKept t_toldKind t_work t_now_stopCount t_now_metric t_now_fixed t_now_facts t_now_rules t_now_sizes t_now_rows t_draft_round t_draft_size t_draft_back t_draft_loads t_draft_miles t_draft_waits t_draft_lateAt t_draft_later t_draft_row t_draft_comes t_draft_begins r7 o7_t_draft_row o7_t_draft_comes o7_t_draft_begins o7_t_draft_round o7_t_draft_size o7_t_draft_back o7_t_draft_loads o7_t_draft_miles o7_t_draft_waits o7_t_draft_lateAt hq7) (u_X7_told_X7_waitsOfAll_251 hts) (ci := 7) rfl 0 rfl rfl rfl rfl rfl rfl hl.1 rfl (Nat.le_of_ble_eq_true rfl) dX7_told_81 (fun H locs S => ?_)
    cases hf
    exact x_iret (pc := 84) C S dX7_told_84
  have hf := ifn s1_5 hf
  have z1_0 := lv_neT (a := 0) s1_0 (by decide)
  have z1_1 := lv_neT (a := 1) s1_1 (by decide)
  have z1_2 := lv_neT (a := 2) s1_2 (by decide)
  have z1_3 := lv_neT (a := 3) s1_3 (by decide)
  have z1_4 := lv_neT (a := 4) s1_4 (by decide)
  have z1_5 := lv_neT (a := 5) s1_5 (by decide)
  refine lv_tableOut (tgt := 85) (x := x1) (pc := 1) hx hb dX7_told_1 (by omega) (by decide) ?_
  refine lv_iconst (pc := 85) hx hb dX7_told_85 ic_m1 ?_
  cases hf
  exact x_iret (pc := 86) C S dX7_told_86
end

abbrev rm_X7_turn : Room := { frames := 4, cells := 0, slots := 0, locals := 103 }
abbrev kw_X7_turn : Cond := .code yX7_turn cX7_turn 4 (some .int)
abbrev w_X7_turn (G : GE) (a_t a_t_now a_t_kept a_t_thought a_t_draft a_t_filling a_t_moves a_t_text a_t_tapes a_t_now_facts a_t_now_roundsOf a_t_now_locked a_t_now_rules a_t_now_sizes a_t_now_rows a_t_now_seen a_t_now_plan a_t_now_book a_t_moves_one a_t_moves_other a_t_moves_one_row a_t_moves_one_comes a_t_moves_one_begins a_t_moves_one_slacks : Nat) (t_hasKept : Int32) (t_toldKind : Int32) (t_work : Int32) (t_now_stopCount : Int32) (t_now_metric : Int32) (t_now_fixed : Int32) (t_now_facts : Nat → Int32) (t_now_locked : Nat → Int32) (t_now_rules : Nat → Int32) (t_now_sizes : Nat → Int32) (t_now_rows : Nat → Int32) (t_moves_isOfTwo : Int32) (t_moves_kind : Int32) (t_moves_gain : Int32) (t_moves_a : Int32) (t_moves_b : Int32) (t_moves_c : Int32) (t_moves_one_round : Int32) (t_moves_one_size : Int32) (t_moves_one_back : Int32) (t_moves_one_loads : Int32) (t_moves_one_miles : Int32) (t_moves_one_waits : Int32) (t_moves_one_lateAt : Int32) (t_moves_one_later : Int32) (t_moves_one_row : Nat → Int32) (t_moves_one_comes : Nat → Int32) (t_moves_one_begins : Nat → Int32) : va_W := [(a_t, ob 7 [.ref a_t_now, .ref a_t_kept, .ref a_t_thought, .ref a_t_draft, .ref a_t_filling, .ref a_t_moves, .ref a_t_text, .ref a_t_tapes, .int t_hasKept, .int t_toldKind, .int t_work]), (a_t_now, ob 6 [.ref a_t_now_facts, .ref a_t_now_roundsOf, .ref a_t_now_locked, .ref a_t_now_rules, .ref a_t_now_sizes, .ref a_t_now_rows, .ref a_t_now_seen, .ref a_t_now_plan, .ref a_t_now_book, .int t_now_stopCount, .int t_now_metric, .int t_now_fixed]), (a_t_now_facts, aI G 102 t_now_facts), (a_t_now_locked, aZ G 16 t_now_locked), (a_t_now_rules, aI G 12 t_now_rules), (a_t_now_sizes, aI G 4 t_now_sizes), (a_t_now_rows, aI G 64 t_now_rows), (a_t_moves, ob 2 [.ref a_t_moves_one, .ref a_t_moves_other, .int t_moves_isOfTwo, .int t_moves_kind, .int t_moves_gain, .int t_moves_a, .int t_moves_b, .int t_moves_c]), (a_t_moves_one, ob 0 [.ref a_t_moves_one_row, .ref a_t_moves_one_comes, .ref a_t_moves_one_begins, .ref a_t_moves_one_slacks, .int t_moves_one_round, .int t_moves_one_size, .int t_moves_one_back, .int t_moves_one_loads, .int t_moves_one_miles, .int t_moves_one_waits, .int t_moves_one_lateAt, .int t_moves_one_later]), (a_t_moves_one_row, aI G 16 t_moves_one_row), (a_t_moves_one_comes, aI G 16 t_moves_one_comes), (a_t_moves_one_begins, aI G 16 t_moves_one_begins)]
theorem u_X7_turn_X7_isRound_147 {s : State} {args : Array Value} (hts : ∀ w ∈ WU, w.before args s = true) : CallB rm_X7_turn s args RX7 147 yX7_isRound cX7_isRound 1 (some .boolean) (kw_X7_isRound :: WU) rm_X7_isRound 0 0 1 ∧ (Cond.static yX7_isRound).before args s = true := va_cwS 1 hts (gS qm_7_147 qs_X7_isRound qn_7 qc_X7_isRound) rfl rfl rfl (by decide +kernel) ⟨Nat.le_of_ble_eq_true rfl, Nat.le_of_ble_eq_true rfl⟩
theorem u_X7_turn_X6_sizeOf_195 {s : State} {args : Array Value} (hts : ∀ w ∈ WU, w.before args s = true) : CallW rm_X7_turn s args RX7 RX6 195 yX6_sizeOf cX6_sizeOf 2 (some .int) (kw_X6_sizeOf :: WU) rm_X6_sizeOf 0 0 1 := cwV 1 hts (gV qm_7_195 qi_X6_sizeOf ql_X6_sizeOf qn_6 qc_X6_sizeOf) rfl rfl rfl (by decide +kernel) ⟨Nat.le_of_ble_eq_true rfl, Nat.le_of_ble_eq_true rfl⟩
theorem u_X7_turn_X2_tryTurn_273 {s : State} {args : Array Value} (hts : ∀ w ∈ WU, w.before args s = true) : CallW rm_X7_turn s args RX7 RX2 273 yX2_tryTurn cX2_tryTurn 6 (some .boolean) (kw_X2_tryTurn :: WU) rm_X2_tryTurn 0 0 4 := cwV 4 hts (gV qm_7_273 qi_X2_tryTurn ql_X2_tryTurn qn_2 qc_X2_tryTurn) rfl rfl rfl (by decide +kernel) ⟨Nat.le_of_ble_eq_true rfl, Nat.le_of_ble_eq_true rfl⟩
theorem u_X7_turn_X2_turnGain_277 {s : State} {args : Array Value} (hts : ∀ w ∈ WU, w.before args s = true) : CallW rm_X7_turn s args RX7 RX2 277 yX2_turnGain cX2_turnGain 9 (some .int) (kw_X2_turnGain :: WU) rm_X2_turnGain 0 0 4 := cwV 4 hts (gV qm_7_277 qi_X2_turnGain ql_X2_turnGain qn_2 qc_X2_turnGain) rfl rfl rfl (by decide +kernel) ⟨Nat.le_of_ble_eq_true rfl, Nat.le_of_ble_eq_true rfl⟩
section
variable {p : Program} {l : Launch} {e : Env} {s : State} {m : MethodId} {args : Array Value} {below : List Frame} {meth : Method} {c : Code} {A : Nat → Prop} {G : GE} {a_t a_t_now a_t_kept a_t_thought a_t_draft a_t_filling a_t_moves a_t_text a_t_tapes a_t_now_facts a_t_now_roundsOf a_t_now_locked a_t_now_rules a_t_now_sizes a_t_now_rows a_t_now_seen a_t_now_plan a_t_now_book a_t_moves_one a_t_moves_other a_t_moves_one_row a_t_moves_one_comes a_t_moves_one_begins a_t_moves_one_slacks : Nat} {r : Int32} {z_t_moves_one_row : Nat → Int32} {z_t_moves_one_comes : Nat → Int32} {z_t_moves_one_begins : Nat → Int32} {z_t_moves_one_round : Int32} {z_t_moves_one_size : Int32} {z_t_moves_one_back : Int32} {z_t_moves_one_loads : Int32} {z_t_moves_one_miles : Int32} {z_t_moves_one_waits : Int32} {z_t_moves_one_lateAt : Int32} {z_t_moves_isOfTwo : Int32}
set_option maxRecDepth 100000 in
set_option maxHeartbeats 4000000 in
theorem c_X7_turn (l : Launch) (G : GE) (a_t a_t_now a_t_kept a_t_thought a_t_draft a_t_filling a_t_moves a_t_text a_t_tapes a_t_now_facts a_t_now_roundsOf a_t_now_locked a_t_now_rules a_t_now_sizes a_t_now_rows a_t_now_seen a_t_now_plan a_t_now_book a_t_moves_one a_t_moves_other a_t_moves_one_row a_t_moves_one_comes a_t_moves_one_begins a_t_moves_one_slacks : Nat) (t_hasKept : Int32) (t_toldKind : Int32) (t_work : Int32) (t_now_stopCount : Int32) (t_now_metric : Int32) (t_now_fixed : Int32) (t_now_facts : Nat → Int32) (t_now_locked : Nat → Int32) (t_now_rules : Nat → Int32) (t_now_sizes : Nat → Int32) (t_now_rows : Nat → Int32) (t_moves_isOfTwo : Int32) (t_moves_kind : Int32) (t_moves_gain : Int32) (t_moves_a : Int32) (t_moves_b : Int32) (t_moves_c : Int32) (t_moves_one_round : Int32) (t_moves_one_size : Int32) (t_moves_one_back : Int32) (t_moves_one_loads : Int32) (t_moves_one_miles : Int32) (t_moves_one_waits : Int32) (t_moves_one_lateAt : Int32) (t_moves_one_later : Int32) (t_moves_one_row : Nat → Int32) (t_moves_one_comes : Nat → Int32) (t_moves_one_begins : Nat → Int32) (x1 : Int32) (x2 : Int32) (x3 : Int32) (r : Int32) (z_t_moves_one_row : Nat → Int32) (z_t_moves_one_comes : Nat → Int32) (z_t_moves_one_begins : Nat → Int32) (z_t_moves_one_round : Int32) (z_t_moves_one_size : Int32) (z_t_moves_one_back : Int32) (z_t_moves_one_loads : Int32) (z_t_moves_one_miles : Int32) (z_t_moves_one_waits : Int32) (z_t_moves_one_lateAt : Int32) (z_t_moves_isOfTwo : Int32) (hf : f_X7_turn t_now_facts t_now_locked t_now_rules t_now_sizes t_now_rows t_now_metric t_moves_one_row t_moves_one_comes t_moves_one_begins t_moves_one_round t_moves_one_size t_moves_one_back t_moves_one_loads t_moves_one_miles t_moves_one_waits t_moves_one_lateAt t_moves_isOfTwo x1 x2 x3 = some (r, z_t_moves_one_row, z_t_moves_one_comes, z_t_moves_one_begins, z_t_moves_one_round, z_t_moves_one_size, z_t_moves_one_back, z_t_moves_one_loads, z_t_moves_one_miles, z_t_moves_one_waits, z_t_moves_one_lateAt, z_t_moves_isOfTwo)) : CI l G yX7_turn kw_X7_turn rm_X7_turn [.ref a_t, .int x1, .int x2, .int x3] (w_X7_turn G a_t a_t_now a_t_kept a_t_thought a_t_draft a_t_filling a_t_moves a_t_text a_t_tapes a_t_now_facts a_t_now_roundsOf a_t_now_locked a_t_now_rules a_t_now_sizes a_t_now_rows a_t_now_seen a_t_now_plan a_t_now_book a_t_moves_one a_t_moves_other a_t_moves_one_row a_t_moves_one_comes a_t_moves_one_begins a_t_moves_one_slacks t_hasKept t_toldKind t_work t_now_stopCount t_now_metric t_now_fixed t_now_facts t_now_locked t_now_rules t_now_sizes t_now_rows t_moves_isOfTwo t_moves_kind t_moves_gain t_moves_a t_moves_b t_moves_c t_moves_one_round t_moves_one_size t_moves_one_back t_moves_one_loads t_moves_one_miles t_moves_one_waits t_moves_one_lateAt t_moves_one_later t_moves_one_row t_moves_one_comes t_moves_one_begins) r (w_X7_turn G a_t a_t_now a_t_kept a_t_thought a_t_draft a_t_filling a_t_moves a_t_text a_t_tapes a_t_now_facts a_t_now_roundsOf a_t_now_locked a_t_now_rules a_t_now_sizes a_t_now_rows a_t_now_seen a_t_now_plan a_t_now_book a_t_moves_one a_t_moves_other a_t_moves_one_row a_t_moves_one_comes a_t_moves_one_begins a_t_moves_one_slacks t_hasKept t_toldKind t_work t_now_stopCount t_now_metric t_now_fixed t_now_facts t_now_locked t_now_rules t_now_sizes t_now_rows z_t_moves_isOfTwo t_moves_kind t_moves_gain t_moves_a t_moves_b t_moves_c z_t_moves_one_round z_t_moves_one_size z_t_moves_one_back z_t_moves_one_loads z_t_moves_one_miles z_t_moves_one_waits z_t_moves_one_lateAt t_moves_one_later z_t_moves_one_row z_t_moves_one_comes z_t_moves_one_begins) := by
  refine en_I (cc := cX7_turn) (maxL := 4) (ret := (some .int)) (by decide +kernel) (Nat.le_of_ble_eq_true rfl) ?_
  intro p e s m args below meth c A ls C S hl
  have hl : lv_has ls 4 [(0, .ref a_t), (1, .int x1), (2, .int x2), (3, .int x3)] := hl
  have C : Cx p s m args meth c cX7_turn (some .int) 4 RX7 G A := C
  unfold f_X7_turn at hf
  have hx := C.1
  have hb := C.2.1
  have hown := C.2.2.2.2.1
  have hts := C.2.2.2.2.2.1
  have hN := C.2.2.2.2.2.2.2.2.2.2
  refine lv_iload_n (pc := 0) hx hb dX7_turn_0 rfl (lv_at hl 1 rfl) ?_
  obtain ⟨r1, hq1, hf⟩ := bd_e hf
  refine x_sI (pc := 1) (As := [.int x1]) (rest := []) (isC := []) (ws' := (w_X7_turn G a_t a_t_now a_t_kept a_t_thought a_t_draft a_t_filling a_t_moves a_t_text a_t_tapes a_t_now_facts a_t_now_roundsOf a_t_now_locked a_t_now_rules a_t_now_sizes a_t_now_rows a_t_now_seen a_t_now_plan a_t_now_book a_t_moves_one a_t_moves_other a_t_moves_one_row a_t_moves_one_comes a_t_moves_one_begins a_t_moves_one_slacks t_hasKept t_toldKind t_work t_now_stopCount t_now_metric t_now_fixed t_now_facts t_now_locked t_now_rules t_now_sizes t_now_rows t_moves_isOfTwo t_moves_kind t_moves_gain t_moves_a t_moves_b t_moves_c t_moves_one_round t_moves_one_size t_moves_one_back t_moves_one_loads t_moves_one_miles t_moves_one_waits t_moves_one_lateAt t_moves_one_later t_moves_one_row t_moves_one_comes t_moves_one_begins)) C S (c_X7_isRound l G x1 r1 hq1) (u_X7_turn_X7_isRound_147 hts) rfl rfl rfl rfl rfl hl.1 rfl (Nat.le_of_ble_eq_true rfl) dX7_turn_1 (fun H locs S => ?_)
  refine lv_if_ne (tgt := 9) (pc := 4) hx hb dX7_turn_4 (by decide) (fun c2 => ?_) (fun c2 => ?_)
  · have hf := ifn c2 hf
    refine lv_iload_n (pc := 9) hx hb dX7_turn_9 rfl (lv_at hl 2 rfl) ?_
    refine lv_if_lt (tgt := 30) (pc := 10) hx hb dX7_turn_10 (by decide) (fun c3 => ?_) (fun c3 => ?_)
    · have hf := ifp c3 hf
      refine lv_bipush (pc := 30) hx hb dX7_turn_30 bc_m2 ?_
      cases hf
      exact x_iret (pc := 32) C S dX7_turn_32
    · have hf := ifn c3 hf
      refine lv_iload_n (pc := 13) hx hb dX7_turn_13 rfl (lv_at hl 3 rfl) ?_
      refine lv_iload_n (pc := 14) hx hb dX7_turn_14 rfl (lv_at hl 2 rfl) ?_
      refine lv_icmp_le (tgt := 30) (pc := 15) hx hb dX7_turn_15 (by decide) (fun c4 => ?_) (fun c4 => ?_)
      · have hf := ifp c4 hf
        refine lv_bipush (pc := 30) hx hb dX7_turn_30 bc_m2 ?_
        cases hf
        exact x_iret (pc := 32) C S dX7_turn_32
      · have hf := ifn c4 hf
        refine lv_iload_n (pc := 18) hx hb dX7_turn_18 rfl (lv_at hl 3 rfl) ?_
        refine lv_aload_n (pc := 19) hx hb dX7_turn_19 rfl (lv_at hl 0 rfl) ?_
        refine x_get (pc := 20) (ci := 7) (T := TX7) (v := .ref a_t_now) C S 0 rfl rfl inlX7 0 (by decide) rfl qf_7_14 rfl dX7_turn_20 ?_
        refine lv_iload_n (pc := 23) hx hb dX7_turn_23 rfl (lv_at hl 1 rfl) ?_
        obtain ⟨r5, hq5, hf⟩ := bd_e hf
        refine x_vI (pc := 24) (As := [.int x1]) (rest := [.int x3]) (isC := [1, 5]) (ws' := (w_X7_turn G a_t a_t_now a_t_kept a_t_thought a_t_draft a_t_filling a_t_moves a_t_text a_t_tapes a_t_now_facts a_t_now_roundsOf a_t_now_locked a_t_now_rules a_t_now_sizes a_t_now_rows a_t_now_seen a_t_now_plan a_t_now_book a_t_moves_one a_t_moves_other a_t_moves_one_row a_t_moves_one_comes a_t_moves_one_begins a_t_moves_one_slacks t_hasKept t_toldKind t_work t_now_stopCount t_now_metric t_now_fixed t_now_facts t_now_locked t_now_rules t_now_sizes t_now_rows t_moves_isOfTwo t_moves_kind t_moves_gain t_moves_a t_moves_b t_moves_c t_moves_one_round t_moves_one_size t_moves_one_back t_moves_one_loads t_moves_one_miles t_moves_one_waits t_moves_one_lateAt t_moves_one_later t_moves_one_row t_moves_one_comes t_moves_one_begins)) C S (c_X6_sizeOf l G a_t_now a_t_now_facts a_t_now_roundsOf a_t_now_locked a_t_now_rules a_t_now_sizes a_t_now_rows a_t_now_seen a_t_now_plan a_t_now_book t_now_stopCount t_now_metric t_now_fixed t_now_sizes x1 r5 hq5) (u_X7_turn_X6_sizeOf_195 hts) (ci := 6) rfl 1 rfl rfl rfl rfl rfl rfl hl.1 rfl (Nat.le_of_ble_eq_true rfl) dX7_turn_24 (fun H locs S => ?_)
        refine lv_icmp_lt (tgt := 33) (pc := 27) hx hb dX7_turn_27 (by decide) (fun c6 => ?_) (fun c6 => ?_)
        · have hf := ifp c6 hf
          refine lv_aload_n (pc := 33) hx hb dX7_turn_33 rfl (lv_at hl 0 rfl) ?_
          refine x_get (pc := 34) (ci := 7) (T := TX7) (v := .ref a_t_moves) C S 0 rfl rfl inlX7 5 (by decide) rfl qf_7_41 rfl dX7_turn_34 ?_
          refine lv_aload_n (pc := 37) hx hb dX7_turn_37 rfl (lv_at hl 0 rfl) ?_
          refine x_get (pc := 38) (ci := 7) (T := TX7) (v := .ref a_t_now) C S 0 rfl rfl inlX7 0 (by decide) rfl qf_7_14 rfl dX7_turn_38 ?_
          refine lv_iload_n (pc := 41) hx hb dX7_turn_41 rfl (lv_at hl 1 rfl) ?_
          refine lv_iload_n (pc := 42) hx hb dX7_turn_42 rfl (lv_at hl 2 rfl) ?_
          refine lv_iload_n (pc := 43) hx hb dX7_turn_43 rfl (lv_at hl 3 rfl) ?_
          obtain ⟨⟨r7, o7_t_moves_one_row, o7_t_moves_one_comes, o7_t_moves_one_begins, o7_t_moves_one_round, o7_t_moves_one_size, o7_t_moves_one_back, o7_t_moves_one_loads, o7_t_moves_one_miles, o7_t_moves_one_waits, o7_t_moves_one_lateAt, o7_t_moves_isOfTwo⟩, hq7, hf⟩ := bd_e hf
          refine x_vI (pc := 44) (As := [.ref a_t_now, .int x1, .int x2, .int x3]) (rest := []) (isC := [7, 8, 9, 10, 11, 1, 2, 3, 4, 5, 6]) (ws' := (w_X7_turn G a_t a_t_now a_t_kept a_t_thought a_t_draft a_t_filling a_t_moves a_t_text a_t_tapes a_t_now_facts a_t_now_roundsOf a_t_now_locked a_t_now_rules a_t_now_sizes a_t_now_rows a_t_now_seen a_t_now_plan a_t_now_book a_t_moves_one a_t_moves_other a_t_moves_one_row a_t_moves_one_comes a_t_moves_one_begins a_t_moves_one_slacks t_hasKept t_toldKind t_work t_now_stopCount t_now_metric t_now_fixed t_now_facts t_now_locked t_now_rules t_now_sizes t_now_rows o7_t_moves_isOfTwo t_moves_kind t_moves_gain t_moves_a t_moves_b t_moves_c o7_t_moves_one_round o7_t_moves_one_size o7_t_moves_one_back o7_t_moves_one_loads o7_t_moves_one_miles o7_t_moves_one_waits o7_t_moves_one_lateAt t_moves_one_later o7_t_moves_one_row o7_t_moves_one_comes o7_t_moves_one_begins)) C S (c_X2_tryTurn l G a_t_moves a_t_moves_one a_t_moves_other a_t_moves_one_row a_t_moves_one_comes a_t_moves_one_begins a_t_moves_one_slacks a_t_now a_t_now_facts a_t_now_roundsOf a_t_now_locked a_t_now_rules a_t_now_sizes a_t_now_rows a_t_now_seen a_t_now_plan a_t_now_book t_moves_isOfTwo t_moves_kind t_moves_gain t_moves_a t_moves_b t_moves_c t_moves_one_round t_moves_one_size t_moves_one_back t_moves_one_loads t_moves_one_miles t_moves_one_waits t_moves_one_lateAt t_moves_one_later t_moves_one_row t_moves_one_comes t_moves_one_begins t_now_stopCount t_now_metric t_now_fixed t_now_facts t_now_locked t_now_rules t_now_sizes t_now_rows x1 x2 x3 r7 o7_t_moves_one_row o7_t_moves_one_comes o7_t_moves_one_begins o7_t_moves_one_round o7_t_moves_one_size o7_t_moves_one_back o7_t_moves_one_loads o7_t_moves_one_miles o7_t_moves_one_waits o7_t_moves_one_lateAt o7_t_moves_isOfTwo hq7) (u_X7_turn_X2_tryTurn_273 hts) (ci := 2) rfl 7 rfl rfl rfl rfl rfl rfl hl.1 rfl (Nat.le_of_ble_eq_true rfl) dX7_turn_44 (fun H locs S => ?_)
          refine lv_if_eq (tgt := 67) (pc := 47) hx hb dX7_turn_47 (by decide) (fun c8 => ?_) (fun c8 => ?_)
          · have hf := ifp c8 hf
            refine lv_ldcw (pc := 67) hx hb hown (hts _ qk_7_281) dX7_turn_67 ?_
            cases hf
            exact x_iret (pc := 70) C S dX7_turn_70
          · have hf := ifn c8 hf
            refine lv_aload_n (pc := 50) hx hb dX7_turn_50 rfl (lv_at hl 0 rfl) ?_
            refine x_get (pc := 51) (ci := 7) (T := TX7) (v := .ref a_t_moves) C S 0 rfl rfl inlX7 5 (by decide) rfl qf_7_41 rfl dX7_turn_51 ?_
            refine lv_aload_n (pc := 54) hx hb dX7_turn_54 rfl (lv_at hl 0 rfl) ?_
            refine x_get (pc := 55) (ci := 7) (T := TX7) (v := .ref a_t_now) C S 0 rfl rfl inlX7 0 (by decide) rfl qf_7_14 rfl dX7_turn_55 ?_
            refine lv_iload_n (pc := 58) hx hb dX7_turn_58 rfl (lv_at hl 1 rfl) ?_
            refine lv_iload_n (pc := 59) hx hb dX7_turn_59 rfl (lv_at hl 2 rfl) ?_
            refine lv_iload_n (pc := 60) hx hb dX7_turn_60 rfl (lv_at hl 3 rfl) ?_
            obtain ⟨r9, hq9, hf⟩ := bd_e hf
            refine x_vI (pc := 61) (As := [.ref a_t_now, .int x1, .int x2, .int x3]) (rest := []) (isC := [7, 1, 2, 5, 6]) (ws' := (w_X7_turn G a_t a_t_now a_t_kept a_t_thought a_t_draft a_t_filling a_t_moves a_t_text a_t_tapes a_t_now_facts a_t_now_roundsOf a_t_now_locked a_t_now_rules a_t_now_sizes a_t_now_rows a_t_now_seen a_t_now_plan a_t_now_book a_t_moves_one a_t_moves_other a_t_moves_one_row a_t_moves_one_comes a_t_moves_one_begins a_t_moves_one_slacks t_hasKept t_toldKind t_work t_now_stopCount t_now_metric t_now_fixed t_now_facts t_now_locked t_now_rules t_now_sizes t_now_rows o7_t_moves_isOfTwo t_moves_kind t_moves_gain t_moves_a t_moves_b t_moves_c o7_t_moves_one_round o7_t_moves_one_size o7_t_moves_one_back o7_t_moves_one_loads o7_t_moves_one_miles o7_t_moves_one_waits o7_t_moves_one_lateAt t_moves_one_later o7_t_moves_one_row o7_t_moves_one_comes o7_t_moves_one_begins)) C S (c_X2_turnGain l G a_t_moves a_t_moves_one a_t_moves_other a_t_now a_t_now_facts a_t_now_roundsOf a_t_now_locked a_t_now_rules a_t_now_sizes a_t_now_rows a_t_now_seen a_t_now_plan a_t_now_book o7_t_moves_isOfTwo t_moves_kind t_moves_gain t_moves_a t_moves_b t_moves_c t_now_stopCount t_now_metric t_now_fixed t_now_facts t_now_sizes t_now_rows x1 x2 x3 r9 hq9) (u_X7_turn_X2_turnGain_277 hts) (ci := 2) rfl 7 rfl rfl rfl rfl rfl rfl hl.1 rfl (Nat.le_of_ble_eq_true rfl) dX7_turn_61 (fun H locs S => ?_)
            refine lv_goto (tgt := 70) (pc := 64) hx hb dX7_turn_64 (by decide) ?_
            cases hf
            exact x_iret (pc := 70) C S dX7_turn_70
        · have hf := ifn c6 hf
          refine lv_bipush (pc := 30) hx hb dX7_turn_30 bc_m2 ?_
          cases hf
          exact x_iret (pc := 32) C S dX7_turn_32
  · have hf := ifp c2 hf
    refine lv_iconst (pc := 7) hx hb dX7_turn_7 ic_m1 ?_
    cases hf
    exact x_iret (pc := 8) C S dX7_turn_8
end

abbrev rm_X7_undo : Room := { frames := 3, cells := 0, slots := 0, locals := 65 }
abbrev kw_X7_undo : Cond := .code yX7_undo cX7_undo 1 (some .int)
abbrev w_X7_undo (G : GE) (a_t a_t_now a_t_kept a_t_thought a_t_draft a_t_filling a_t_moves a_t_text a_t_tapes a_t_now_facts a_t_now_roundsOf a_t_now_locked a_t_now_rules a_t_now_sizes a_t_now_rows a_t_now_seen a_t_now_plan a_t_now_book a_t_now_seen_left a_t_now_seen_right a_t_now_plan_left a_t_now_plan_right a_t_now_book_left a_t_now_book_right a_t_kept_facts a_t_kept_roundsOf a_t_kept_locked a_t_kept_rules a_t_kept_sizes a_t_kept_rows a_t_kept_seen a_t_kept_plan a_t_kept_book a_t_kept_seen_left a_t_kept_seen_right a_t_kept_plan_left a_t_kept_plan_right a_t_kept_book_left a_t_kept_book_right : Nat) (t_hasKept : Int32) (t_toldKind : Int32) (t_work : Int32) (t_now_stopCount : Int32) (t_now_metric : Int32) (t_now_fixed : Int32) (t_now_facts : Nat → Int32) (t_now_roundsOf : Nat → Int32) (t_now_locked : Nat → Int32) (t_now_rules : Nat → Int32) (t_now_sizes : Nat → Int32) (t_now_rows : Nat → Int32) (t_now_seen_size : Int32) (t_now_seen_left : Nat → Int32) (t_now_seen_right : Nat → Int32) (t_now_plan_size : Int32) (t_now_plan_left : Nat → Int32) (t_now_plan_right : Nat → Int32) (t_now_book_size : Int32) (t_now_book_left : Nat → Int32) (t_now_book_right : Nat → Int32) (t_kept_stopCount : Int32) (t_kept_metric : Int32) (t_kept_fixed : Int32) (t_kept_facts : Nat → Int32) (t_kept_roundsOf : Nat → Int32) (t_kept_locked : Nat → Int32) (t_kept_rules : Nat → Int32) (t_kept_sizes : Nat → Int32) (t_kept_rows : Nat → Int32) (t_kept_seen_size : Int32) (t_kept_seen_left : Nat → Int32) (t_kept_seen_right : Nat → Int32) (t_kept_plan_size : Int32) (t_kept_plan_left : Nat → Int32) (t_kept_plan_right : Nat → Int32) (t_kept_book_size : Int32) (t_kept_book_left : Nat → Int32) (t_kept_book_right : Nat → Int32) : va_W := [(a_t, ob 7 [.ref a_t_now, .ref a_t_kept, .ref a_t_thought, .ref a_t_draft, .ref a_t_filling, .ref a_t_moves, .ref a_t_text, .ref a_t_tapes, .int t_hasKept, .int t_toldKind, .int t_work]), (a_t_now, ob 6 [.ref a_t_now_facts, .ref a_t_now_roundsOf, .ref a_t_now_locked, .ref a_t_now_rules, .ref a_t_now_sizes, .ref a_t_now_rows, .ref a_t_now_seen, .ref a_t_now_plan, .ref a_t_now_book, .int t_now_stopCount, .int t_now_metric, .int t_now_fixed]), (a_t_now_facts, aI G 102 t_now_facts), (a_t_now_roundsOf, aI G 16 t_now_roundsOf), (a_t_now_locked, aZ G 16 t_now_locked), (a_t_now_rules, aI G 12 t_now_rules), (a_t_now_sizes, aI G 4 t_now_sizes), (a_t_now_rows, aI G 64 t_now_rows), (a_t_now_seen, ob 3 [.ref a_t_now_seen_left, .ref a_t_now_seen_right, .int t_now_seen_size]), (a_t_now_seen_left, aI G 8 t_now_seen_left), (a_t_now_seen_right, aI G 8 t_now_seen_right), (a_t_now_plan, ob 3 [.ref a_t_now_plan_left, .ref a_t_now_plan_right, .int t_now_plan_size]), (a_t_now_plan_left, aI G 8 t_now_plan_left), (a_t_now_plan_right, aI G 8 t_now_plan_right), (a_t_now_book, ob 3 [.ref a_t_now_book_left, .ref a_t_now_book_right, .int t_now_book_size]), (a_t_now_book_left, aI G 8 t_now_book_left), (a_t_now_book_right, aI G 8 t_now_book_right), (a_t_kept, ob 6 [.ref a_t_kept_facts, .ref a_t_kept_roundsOf, .ref a_t_kept_locked, .ref a_t_kept_rules, .ref a_t_kept_sizes, .ref a_t_kept_rows, .ref a_t_kept_seen, .ref a_t_kept_plan, .ref a_t_kept_book, .int t_kept_stopCount, .int t_kept_metric, .int t_kept_fixed]), (a_t_kept_facts, aI G 102 t_kept_facts), (a_t_kept_roundsOf, aI G 16 t_kept_roundsOf), (a_t_kept_locked, aZ G 16 t_kept_locked), (a_t_kept_rules, aI G 12 t_kept_rules), (a_t_kept_sizes, aI G 4 t_kept_sizes), (a_t_kept_rows, aI G 64 t_kept_rows), (a_t_kept_seen, ob 3 [.ref a_t_kept_seen_left, .ref a_t_kept_seen_right, .int t_kept_seen_size]), (a_t_kept_seen_left, aI G 8 t_kept_seen_left), (a_t_kept_seen_right, aI G 8 t_kept_seen_right), (a_t_kept_plan, ob 3 [.ref a_t_kept_plan_left, .ref a_t_kept_plan_right, .int t_kept_plan_size]), (a_t_kept_plan_left, aI G 8 t_kept_plan_left), (a_t_kept_plan_right, aI G 8 t_kept_plan_right), (a_t_kept_book, ob 3 [.ref a_t_kept_book_left, .ref a_t_kept_book_right, .int t_kept_book_size]), (a_t_kept_book_left, aI G 8 t_kept_book_left), (a_t_kept_book_right, aI G 8 t_kept_book_right)]
theorem u_X7_undo_X6_copyFrom_329 {s : State} {args : Array Value} (hts : ∀ w ∈ WU, w.before args s = true) : CallW rm_X7_undo s args RX7 RX6 329 yX6_copyFrom cX6_copyFrom 3 none (kw_X6_copyFrom :: WU) rm_X6_copyFrom 0 0 1 := cwV 1 hts (gV qm_7_329 qi_X6_copyFrom ql_X6_copyFrom qn_6 qc_X6_copyFrom) rfl rfl rfl (by decide +kernel) ⟨Nat.le_of_ble_eq_true rfl, Nat.le_of_ble_eq_true rfl⟩
section
variable {p : Program} {l : Launch} {e : Env} {s : State} {m : MethodId} {args : Array Value} {below : List Frame} {meth : Method} {c : Code} {A : Nat → Prop} {G : GE} {a_t a_t_now a_t_kept a_t_thought a_t_draft a_t_filling a_t_moves a_t_text a_t_tapes a_t_now_facts a_t_now_roundsOf a_t_now_locked a_t_now_rules a_t_now_sizes a_t_now_rows a_t_now_seen a_t_now_plan a_t_now_book a_t_now_seen_left a_t_now_seen_right a_t_now_plan_left a_t_now_plan_right a_t_now_book_left a_t_now_book_right a_t_kept_facts a_t_kept_roundsOf a_t_kept_locked a_t_kept_rules a_t_kept_sizes a_t_kept_rows a_t_kept_seen a_t_kept_plan a_t_kept_book a_t_kept_seen_left a_t_kept_seen_right a_t_kept_plan_left a_t_kept_plan_right a_t_kept_book_left a_t_kept_book_right : Nat} {r : Int32} {z_t_now_facts : Nat → Int32} {z_t_now_roundsOf : Nat → Int32} {z_t_now_locked : Nat → Int32} {z_t_now_rules : Nat → Int32} {z_t_now_sizes : Nat → Int32} {z_t_now_rows : Nat → Int32} {z_t_now_seen_left : Nat → Int32} {z_t_now_seen_right : Nat → Int32} {z_t_now_seen_size : Int32} {z_t_now_plan_left : Nat → Int32} {z_t_now_plan_right : Nat → Int32} {z_t_now_plan_size : Int32} {z_t_now_book_left : Nat → Int32} {z_t_now_book_right : Nat → Int32} {z_t_now_book_size : Int32} {z_t_now_stopCount : Int32} {z_t_now_metric : Int32} {z_t_now_fixed : Int32}
set_option maxRecDepth 100000 in
set_option maxHeartbeats 4000000 in
theorem c_X7_undo (l : Launch) (G : GE) (a_t a_t_now a_t_kept a_t_thought a_t_draft a_t_filling a_t_moves a_t_text a_t_tapes a_t_now_facts a_t_now_roundsOf a_t_now_locked a_t_now_rules a_t_now_sizes a_t_now_rows a_t_now_seen a_t_now_plan a_t_now_book a_t_now_seen_left a_t_now_seen_right a_t_now_plan_left a_t_now_plan_right a_t_now_book_left a_t_now_book_right a_t_kept_facts a_t_kept_roundsOf a_t_kept_locked a_t_kept_rules a_t_kept_sizes a_t_kept_rows a_t_kept_seen a_t_kept_plan a_t_kept_book a_t_kept_seen_left a_t_kept_seen_right a_t_kept_plan_left a_t_kept_plan_right a_t_kept_book_left a_t_kept_book_right : Nat) (t_hasKept : Int32) (t_toldKind : Int32) (t_work : Int32) (t_now_stopCount : Int32) (t_now_metric : Int32) (t_now_fixed : Int32) (t_now_facts : Nat → Int32) (t_now_roundsOf : Nat → Int32) (t_now_locked : Nat → Int32) (t_now_rules : Nat → Int32) (t_now_sizes : Nat → Int32) (t_now_rows : Nat → Int32) (t_now_seen_size : Int32) (t_now_seen_left : Nat → Int32) (t_now_seen_right : Nat → Int32) (t_now_plan_size : Int32) (t_now_plan_left : Nat → Int32) (t_now_plan_right : Nat → Int32) (t_now_book_size : Int32) (t_now_book_left : Nat → Int32) (t_now_book_right : Nat → Int32) (t_kept_stopCount : Int32) (t_kept_metric : Int32) (t_kept_fixed : Int32) (t_kept_facts : Nat → Int32) (t_kept_roundsOf : Nat → Int32) (t_kept_locked : Nat → Int32) (t_kept_rules : Nat → Int32) (t_kept_sizes : Nat → Int32) (t_kept_rows : Nat → Int32) (t_kept_seen_size : Int32) (t_kept_seen_left : Nat → Int32) (t_kept_seen_right : Nat → Int32) (t_kept_plan_size : Int32) (t_kept_plan_left : Nat → Int32) (t_kept_plan_right : Nat → Int32) (t_kept_book_size : Int32) (t_kept_book_left : Nat → Int32) (t_kept_book_right : Nat → Int32) (r : Int32) (z_t_now_facts : Nat → Int32) (z_t_now_roundsOf : Nat → Int32) (z_t_now_locked : Nat → Int32) (z_t_now_rules : Nat → Int32) (z_t_now_sizes : Nat → Int32) (z_t_now_rows : Nat → Int32) (z_t_now_seen_left : Nat → Int32) (z_t_now_seen_right : Nat → Int32) (z_t_now_seen_size : Int32) (z_t_now_plan_left : Nat → Int32) (z_t_now_plan_right : Nat → Int32) (z_t_now_plan_size : Int32) (z_t_now_book_left : Nat → Int32) (z_t_now_book_right : Nat → Int32) (z_t_now_book_size : Int32) (z_t_now_stopCount : Int32) (z_t_now_metric : Int32) (z_t_now_fixed : Int32) (hf : f_X7_undo t_now_facts t_now_roundsOf t_now_locked t_now_rules t_now_sizes t_now_rows t_now_seen_left t_now_seen_right t_now_seen_size t_now_plan_left t_now_plan_right t_now_plan_size t_now_book_left t_now_book_right t_now_book_size t_now_stopCount t_now_metric t_now_fixed t_kept_facts t_kept_roundsOf t_kept_locked t_kept_rules t_kept_sizes t_kept_rows t_kept_seen_left t_kept_seen_right t_kept_seen_size t_kept_plan_left t_kept_plan_right t_kept_plan_size t_kept_book_left t_kept_book_right t_kept_book_size t_kept_stopCount t_kept_metric t_kept_fixed t_hasKept = some (r, z_t_now_facts, z_t_now_roundsOf, z_t_now_locked, z_t_now_rules, z_t_now_sizes, z_t_now_rows, z_t_now_seen_left, z_t_now_seen_right, z_t_now_seen_size, z_t_now_plan_left, z_t_now_plan_right, z_t_now_plan_size, z_t_now_book_left, z_t_now_book_right, z_t_now_book_size, z_t_now_stopCount, z_t_now_metric, z_t_now_fixed)) : CI l G yX7_undo kw_X7_undo rm_X7_undo [.ref a_t] (w_X7_undo G a_t a_t_now a_t_kept a_t_thought a_t_draft a_t_filling a_t_moves a_t_text a_t_tapes a_t_now_facts a_t_now_roundsOf a_t_now_locked a_t_now_rules a_t_now_sizes a_t_now_rows a_t_now_seen a_t_now_plan a_t_now_book a_t_now_seen_left a_t_now_seen_right a_t_now_plan_left a_t_now_plan_right a_t_now_book_left a_t_now_book_right a_t_kept_facts a_t_kept_roundsOf a_t_kept_locked a_t_kept_rules a_t_kept_sizes a_t_kept_rows a_t_kept_seen a_t_kept_plan a_t_kept_book a_t_kept_seen_left a_t_kept_seen_right a_t_kept_plan_left a_t_kept_plan_right a_t_kept_book_left a_t_kept_book_right t_hasKept t_toldKind t_work t_now_stopCount t_now_metric t_now_fixed t_now_facts t_now_roundsOf t_now_locked t_now_rules t_now_sizes t_now_rows t_now_seen_size t_now_seen_left t_now_seen_right t_now_plan_size t_now_plan_left t_now_plan_right t_now_book_size t_now_book_left t_now_book_right t_kept_stopCount t_kept_metric t_kept_fixed t_kept_facts t_kept_roundsOf t_kept_locked t_kept_rules t_kept_sizes t_kept_rows t_kept_seen_size t_kept_seen_left t_kept_seen_right t_kept_plan_size t_kept_plan_left t_kept_plan_right t_kept_book_size t_kept_book_left t_kept_book_right) r (w_X7_undo G a_t a_t_now a_t_kept a_t_thought a_t_draft a_t_filling a_t_moves a_t_text a_t_tapes a_t_now_facts a_t_now_roundsOf a_t_now_locked a_t_now_rules a_t_now_sizes a_t_now_rows a_t_now_seen a_t_now_plan a_t_now_book a_t_now_seen_left a_t_now_seen_right a_t_now_plan_left a_t_now_plan_right a_t_now_book_left a_t_now_book_right a_t_kept_facts a_t_kept_roundsOf a_t_kept_locked a_t_kept_rules a_t_kept_sizes a_t_kept_rows a_t_kept_seen a_t_kept_plan a_t_kept_book a_t_kept_seen_left a_t_kept_seen_right a_t_kept_plan_left a_t_kept_plan_right a_t_kept_book_left a_t_kept_book_right t_hasKept t_toldKind t_work z_t_now_stopCount z_t_now_metric z_t_now_fixed z_t_now_facts z_t_now_roundsOf z_t_now_locked z_t_now_rules z_t_now_sizes z_t_now_rows z_t_now_seen_size z_t_now_seen_left z_t_now_seen_right z_t_now_plan_size z_t_now_plan_left z_t_now_plan_right z_t_now_book_size z_t_now_book_left z_t_now_book_right t_kept_stopCount t_kept_metric t_kept_fixed t_kept_facts t_kept_roundsOf t_kept_locked t_kept_rules t_kept_sizes t_kept_rows t_kept_seen_size t_kept_seen_left t_kept_seen_right t_kept_plan_size t_kept_plan_left t_kept_plan_right t_kept_book_size t_kept_book_left t_kept_book_right) := by
  refine en_I (cc := cX7_undo) (maxL := 1) (ret := (some .int)) (by decide +kernel) (Nat.le_of_ble_eq_true rfl) ?_
  intro p e s m args below meth c A ls C S hl
  have hl : lv_has ls 1 [(0, .ref a_t)] := hl
  have C : Cx p s m args meth c cX7_undo (some .int) 1 RX7 G A := C
  unfold f_X7_undo at hf
  have hx := C.1
  have hb := C.2.1
  have hown := C.2.2.2.2.1
  have hts := C.2.2.2.2.2.1
  have hN := C.2.2.2.2.2.2.2.2.2.2
  refine lv_aload_n (pc := 0) hx hb dX7_undo_0 rfl (lv_at hl 0 rfl) ?_
  refine x_get (pc := 1) (ci := 7) (T := TX7) (v := .int t_hasKept) C S 0 rfl rfl inlX7 8 (by decide) rfl qf_7_354 rfl dX7_undo_1 ?_
  refine lv_if_ne (tgt := 10) (pc := 4) hx hb dX7_undo_4 (by decide) (fun c1 => ?_) (fun c1 => ?_)
  · have hf := ifn c1 hf
    refine lv_aload_n (pc := 10) hx hb dX7_undo_10 rfl (lv_at hl 0 rfl) ?_
    refine x_get (pc := 11) (ci := 7) (T := TX7) (v := .ref a_t_now) C S 0 rfl rfl inlX7 0 (by decide) rfl qf_7_14 rfl dX7_undo_11 ?_
    refine lv_aload_n (pc := 14) hx hb dX7_undo_14 rfl (lv_at hl 0 rfl) ?_
    refine x_get (pc := 15) (ci := 7) (T := TX7) (v := .ref a_t_kept) C S 0 rfl rfl inlX7 1 (by decide) rfl qf_7_18 rfl dX7_undo_15 ?_
    obtain ⟨⟨o2_t_now_facts, o2_t_now_roundsOf, o2_t_now_locked, o2_t_now_rules, o2_t_now_sizes, o2_t_now_rows, o2_t_now_seen_left, o2_t_now_seen_right, o2_t_now_seen_size, o2_t_now_plan_left, o2_t_now_plan_right, o2_t_now_plan_size, o2_t_now_book_left, o2_t_now_book_right, o2_t_now_book_size, o2_t_now_stopCount, o2_t_now_metric, o2_t_now_fixed⟩, hq2, hf⟩ := bd_e hf
    refine x_vV (pc := 18) (As := [.ref a_t_kept]) (rest := []) (isC := [1, 2, 3, 4, 5, 6, 7, 8, 9, 10, 11, 12, 13, 14, 15, 16, 17, 18, 19, 20, 21, 22, 23, 24, 25, 26, 27, 28, 29, 30, 31, 32]) (ws' := (w_X7_undo G a_t a_t_now a_t_kept a_t_thought a_t_draft a_t_filling a_t_moves a_t_text a_t_tapes a_t_now_facts a_t_now_roundsOf a_t_now_locked a_t_now_rules a_t_now_sizes a_t_now_rows a_t_now_seen a_t_now_plan a_t_now_book a_t_now_seen_left a_t_now_seen_right a_t_now_plan_left a_t_now_plan_right a_t_now_book_left a_t_now_book_right a_t_kept_facts a_t_kept_roundsOf a_t_kept_locked a_t_kept_rules a_t_kept_sizes a_t_kept_rows a_t_kept_seen a_t_kept_plan a_t_kept_book a_t_kept_seen_left a_t_kept_seen_right a_t_kept_plan_left a_t_kept_plan_right a_t_kept_book_left a_t_kept_book_right t_hasKept t_toldKind t_work o2_t_now_stopCount o2_t_now_metric o2_t_now_fixed o2_t_now_facts o2_t_now_roundsOf o2_t_now_locked o2_t_now_rules o2_t_now_sizes o2_t_now_rows o2_t_now_seen_size o2_t_now_seen_left o2_t_now_seen_right o2_t_now_plan_size o2_t_now_plan_left o2_t_now_plan_right o2_t_now_book_size o2_t_now_book_left o2_t_now_book_right t_kept_stopCount t_kept_metric t_kept_fixed t_kept_facts t_kept_roundsOf t_kept_locked t_kept_rules t_kept_sizes t_kept_rows t_kept_seen_size t_kept_seen_left t_kept_seen_right t_kept_plan_size t_kept_plan_left t_kept_plan_right t_kept_book_size t_kept_book_left t_kept_book_right)) C S (c_X6_copyFrom l G a_t_now a_t_now_facts a_t_now_roundsOf a_t_now_locked a_t_now_rules a_t_now_sizes a_t_now_rows a_t_now_seen a_t_now_plan a_t_now_book a_t_now_seen_left a_t_now_seen_right a_t_now_plan_left a_t_now_plan_right a_t_now_book_left a_t_now_book_right a_t_kept a_t_kept_facts a_t_kept_roundsOf a_t_kept_locked a_t_kept_rules a_t_kept_sizes a_t_kept_rows a_t_kept_seen a_t_kept_plan a_t_kept_book a_t_kept_seen_left a_t_kept_seen_right a_t_kept_plan_left a_t_kept_plan_right a_t_kept_book_left a_t_kept_book_right t_now_stopCount t_now_metric t_now_fixed t_now_facts t_now_roundsOf t_now_locked t_now_rules t_now_sizes t_now_rows t_now_seen_size t_now_seen_left t_now_seen_right t_now_plan_size t_now_plan_left t_now_plan_right t_now_book_size t_now_book_left t_now_book_right t_kept_stopCount t_kept_metric t_kept_fixed t_kept_facts t_kept_roundsOf t_kept_locked t_kept_rules t_kept_sizes t_kept_rows t_kept_seen_size t_kept_seen_left t_kept_seen_right t_kept_plan_size t_kept_plan_left t_kept_plan_right t_kept_book_size t_kept_book_left t_kept_book_right o2_t_now_facts o2_t_now_roundsOf o2_t_now_locked o2_t_now_rules o2_t_now_sizes o2_t_now_rows o2_t_now_seen_left o2_t_now_seen_right o2_t_now_seen_size o2_t_now_plan_left o2_t_now_plan_right o2_t_now_plan_size o2_t_now_book_left o2_t_now_book_right o2_t_now_book_size o2_t_now_stopCount o2_t_now_metric o2_t_now_fixed hq2) (u_X7_undo_X6_copyFrom_329 hts) (ci := 6) rfl 1 rfl rfl rfl rfl rfl rfl hl.1 rfl (Nat.le_of_ble_eq_true rfl) dX7_undo_18 (fun H locs S => ?_)
    refine lv_aload_n (pc := 21) hx hb dX7_undo_21 rfl (lv_at hl 0 rfl) ?_
    refine x_get (pc := 22) (ci := 7) (T := TX7) (v := .ref a_t_now) C S 0 rfl rfl inlX7 0 (by decide) rfl qf_7_14 rfl dX7_undo_22 ?_
    refine x_get (pc := 25) (ci := 6) (T := TX6) (v := .int o2_t_now_stopCount) C S 1 rfl rfl inlX6 9 (by decide) rfl qf_7_75 rfl dX7_undo_25 ?_
    cases hf
    exact x_iret (pc := 28) C S dX7_undo_28
  · have hf := ifp c1 hf
    refine lv_bipush (pc := 7) hx hb dX7_undo_7 bc_m3 ?_
    cases hf
    exact x_iret (pc := 9) C S dX7_undo_9
end
