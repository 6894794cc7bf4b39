abbrev rm_X3_append : Room := { frames := 0, cells := 0, slots := 0, locals := 0 }
abbrev kw_X3_append : Cond := .code yX3_append cX3_append 3 (some .int)
abbrev w_X3_append (G : GE) (a_t a_t_left a_t_right : Nat) (t_size : Int32) (t_left : Nat → Int32) (t_right : Nat → Int32) : va_W := [(a_t, ob 3 [.ref a_t_left, .ref a_t_right, .int t_size]), (a_t_left, aI G 8 t_left), (a_t_right, aI G 8 t_right)]
section
variable {p : Program} {l : Launch} {e : Env} {s : State} {m : MethodId} {args : Array Value} {below : List Frame} {meth : Method} {c : Code} {A : Nat → Prop} {G : GE} {a_t a_t_left a_t_right : Nat} {r : Int32} {z_t_left : Nat → Int32} {z_t_right : Nat → Int32} {z_t_size : Int32}
set_option maxRecDepth 100000 in
set_option maxHeartbeats 4000000 in
theorem c_X3_append (l : Launch) (G : GE) (a_t a_t_left a_t_right : Nat) (t_size : Int32) (t_left : Nat → Int32) (t_right : Nat → Int32) (x1 : Int32) (x2 : Int32) (r : Int32) (z_t_left : Nat → Int32) (z_t_right : Nat → Int32) (z_t_size : Int32) (hf : f_X3_append t_left t_right t_size x1 x2 = some (r, z_t_left, z_t_right, z_t_size)) : CI l G yX3_append kw_X3_append rm_X3_append [.ref a_t, .int x1, .int x2] (w_X3_append G a_t a_t_left a_t_right t_size t_left t_right) r (w_X3_append G a_t a_t_left a_t_right z_t_size z_t_left z_t_right) := by
  refine en_I (cc := cX3_append) (maxL := 3) (ret := (some .int)) (by decide +kernel) (Nat.le_of_ble_eq_true rfl) ?_
  intro p e s m args below meth c A ls C S hl
  have hl : lv_has ls 3 [(0, .ref a_t), (1, .int x1), (2, .int x2)] := hl
  have C : Cx p s m args meth c cX3_append (some .int) 3 RX3 G A := C
  unfold f_X3_append at hf
  have hx := C.1
  have hb := C.2.1
  have hown := C.2.2.2.2.1
  have hts := C.2.2.2.2.2.1
  have hN := C.2.2.2.2.2.2.2.2.2.2
  refine lv_aload_n (pc := 0) hx hb dX3_append_0 rfl (lv_at hl 0 rfl) ?_
  refine x_get (pc := 1) (ci := 3) (T := TX3) (v := .int t_size) C S 0 rfl rfl inlX3 2 (by decide) rfl qf_3_18 rfl dX3_append_1 ?_
  refine lv_if_lt (tgt := 46) (pc := 4) hx hb dX3_append_4 (by decide) (fun c1 => ?_) (fun c1 => ?_)
  · have hf := ifp c1 hf
    refine lv_aload_n (pc := 46) hx hb dX3_append_46 rfl (lv_at hl 0 rfl) ?_
    refine x_get (pc := 47) (ci := 3) (T := TX3) (v := .int t_size) C S 0 rfl rfl inlX3 2 (by decide) rfl qf_3_18 rfl dX3_append_47 ?_
    cases hf
    exact x_iret (pc := 50) C S dX3_append_50
  · have hf := ifn c1 hf
    refine lv_aload_n (pc := 7) hx hb dX3_append_7 rfl (lv_at hl 0 rfl) ?_
    refine x_get (pc := 8) (ci := 3) (T := TX3) (v := .int t_size) C S 0 rfl rfl inlX3 2 (by decide) rfl qf_3_18 rfl dX3_append_8 ?_
    refine lv_bipush (pc := 11) hx hb dX3_append_11 bc_8 ?_
    refine lv_icmp_ge (tgt := 46) (pc := 13) hx hb dX3_append_13 (by decide) (fun c2 => ?_) (fun c2 => ?_)
    · have hf := ifp c2 hf
      refine lv_aload_n (pc := 46) hx hb dX3_append_46 rfl (lv_at hl 0 rfl) ?_
      refine x_get (pc := 47) (ci := 3) (T := TX3) (v := .int t_size) C S 0 rfl rfl inlX3 2 (by decide) rfl qf_3_18 rfl dX3_append_47 ?_
      cases hf
      exact x_iret (pc := 50) C S dX3_append_50
    · have hf := ifn c2 hf
      refine lv_aload_n (pc := 16) hx hb dX3_append_16 rfl (lv_at hl 0 rfl) ?_
      refine x_get (pc := 17) (ci := 3) (T := TX3) (v := .ref a_t_left) C S 0 rfl rfl inlX3 0 (by decide) rfl qf_3_9 rfl dX3_append_17 ?_
      refine lv_aload_n (pc := 20) hx hb dX3_append_20 rfl (lv_at hl 0 rfl) ?_
      refine x_get (pc := 21) (ci := 3) (T := TX3) (v := .int t_size) C S 0 rfl rfl inlX3 2 (by decide) rfl qf_3_18 rfl dX3_append_21 ?_
      refine lv_iload_n (pc := 24) hx hb dX3_append_24 rfl (lv_at hl 1 rfl) ?_
      obtain ⟨hv3, hf⟩ := gI_e hf
      refine x_iast (pc := 25) (ws' := (w_X3_append G a_t a_t_left a_t_right t_size (upd t_left t_size.toNatClampNeg x1) t_right)) C S 1 rfl hv3 rfl dX3_append_25 (fun H locs S => ?_)
      refine lv_aload_n (pc := 26) hx hb dX3_append_26 rfl (lv_at hl 0 rfl) ?_
      refine x_get (pc := 27) (ci := 3) (T := TX3) (v := .ref a_t_right) C S 0 rfl rfl inlX3 1 (by decide) rfl qf_3_15 rfl dX3_append_27 ?_
      refine lv_aload_n (pc := 30) hx hb dX3_append_30 rfl (lv_at hl 0 rfl) ?_
      refine x_get (pc := 31) (ci := 3) (T := TX3) (v := .int t_size) C S 0 rfl rfl inlX3 2 (by decide) rfl qf_3_18 rfl dX3_append_31 ?_
      refine lv_iload_n (pc := 34) hx hb dX3_append_34 rfl (lv_at hl 2 rfl) ?_
      refine x_iast (pc := 35) (ws' := (w_X3_append G a_t a_t_left a_t_right t_size (upd t_left t_size.toNatClampNeg x1) (upd t_right t_size.toNatClampNeg x2))) C S 2 rfl hv3 rfl dX3_append_35 (fun H locs S => ?_)
      refine lv_aload_n (pc := 36) hx hb dX3_append_36 rfl (lv_at hl 0 rfl) ?_
      refine lv_dup (pc := 37) hx hb dX3_append_37 rfl ?_
      refine x_get (pc := 38) (ci := 3) (T := TX3) (v := .int t_size) C S 0 rfl rfl inlX3 2 (by decide) rfl qf_3_18 rfl dX3_append_38 ?_
      refine lv_iconst (pc := 41) hx hb dX3_append_41 ic_1 ?_
      refine lv_iadd (pc := 42) hx hb dX3_append_42 ?_
      refine x_put (pc := 43) (ci := 3) (T := TX3) (ws' := (w_X3_append G a_t a_t_left a_t_right (t_size + (1 : Int32)) (upd t_left t_size.toNatClampNeg x1) (upd t_right t_size.toNatClampNeg x2))) C S tyX3 tyX3_ok nmX3 0 rfl rfl inlX3 2 (by decide) rfl qf_3_18 rfl rfl rfl rfl (Nat.le_of_ble_eq_true rfl) rfl dX3_append_43 (fun H locs S => ?_)
      refine lv_aload_n (pc := 46) hx hb dX3_append_46 rfl (lv_at hl 0 rfl) ?_
      refine x_get (pc := 47) (ci := 3) (T := TX3) (v := .int (t_size + (1 : Int32))) C S 0 rfl rfl inlX3 2 (by decide) rfl qf_3_18 rfl dX3_append_47 ?_
      cases hf
      exact x_iret (pc := 50) C S dX3_append_50
end
abbrev rm_X7_copyRow : Room := { frames := 0, cells := 0, slots := 0, locals := 0 }
abbrev kw_X7_copyRow : Cond := .code yX7_copyRow cX7_copyRow 3 none
abbrev w_X7_copyRow (G : GE) (a_p0 a_p1 : Nat) (n_p0 : Nat) (n_p1 : Nat) (p0 : Nat → Int32) (p1 : Nat → Int32) : va_W := [(a_p0, aI G n_p0 p0), (a_p1, aI G n_p1 p1)]
section
variable {p : Program} {l : Launch} {e : Env} {s : State} {m : MethodId} {args : Array Value} {below : List Frame} {meth : Method} {c : Code} {A : Nat → Prop} {G : GE} {a_p0 a_p1 : Nat} {n_p0 n_p1 : Nat} {z_p1 : Nat → Int32}
set_option maxRecDepth 100000 in
set_option maxHeartbeats 4000000 in
theorem k_X7_copyRow_2 (C : Cx p s m args meth c cX7_copyRow none 3 RX7 G A) (p0 : Nat → Int32) (p1 : Nat → Int32) (x2 : Int32) (k2 : Int32 × (Nat → Int32) → Option ((Nat → Int32))) (hk2 : ∀ {H : Heap} {locs : List Loc} {ls : Array Slot} (x2' : Int32) (p1' : Nat → Int32), k2 (x2', p1') = some z_p1 → St G A s.heap H locs (w_X7_copyRow G a_p0 a_p1 n_p0 n_p1 p0 p1') → lv_has ls 3 [(0, .ref a_p0), (1, .ref a_p1), (2, .int x2')] → W p l e rm_X7_copyRow s m args below meth c H locs 0 0 (QV G below args s A (w_X7_copyRow G a_p0 a_p1 n_p0 n_p1 p0 z_p1)) (F0 m 2 ls [])) {H : Heap} {locs : List Loc} {ls : Array Slot} (hf : b_X7_copyRow_2 n_p0 n_p1 p0 k2 x2 p1 = some z_p1) (S : St G A s.heap H locs (w_X7_copyRow G a_p0 a_p1 n_p0 n_p1 p0 p1)) (hl : lv_has ls 3 [(0, .ref a_p0), (1, .ref a_p1), (2, .int x2)]) : W p l e rm_X7_copyRow s m args below meth c H locs 0 0 (QV G below args s A (w_X7_copyRow G a_p0 a_p1 n_p0 n_p1 p0 z_p1)) (F0 m 2 ls []) := by
  unfold b_X7_copyRow_2 at hf
  have hx := C.1
  have hb := C.2.1
  have hown := C.2.2.2.2.1
  have hts := C.2.2.2.2.2.1
  have hN := C.2.2.2.2.2.2.2.2.2.2
  refine lv_iload_n (pc := 2) hx hb dX7_copyRow_2 rfl (lv_at hl 2 rfl) ?_
  refine lv_aload_n (pc := 3) hx hb dX7_copyRow_3 rfl (lv_at hl 0 rfl) ?_
  refine x_lenI (pc := 4) C S 0 rfl rfl dX7_copyRow_4 ?_
  refine lv_icmp_ge (tgt := 26) (pc := 5) hx hb dX7_copyRow_5 (by decide) (fun c1 => ?_) (fun c1 => ?_)
  · have hf := ifp c1 hf
    cases hf
    exact x_vret (pc := 26) C S dX7_copyRow_26
  · have hf := ifn c1 hf
    refine lv_iload_n (pc := 8) hx hb dX7_copyRow_8 rfl (lv_at hl 2 rfl) ?_
    refine lv_aload_n (pc := 9) hx hb dX7_copyRow_9 rfl (lv_at hl 1 rfl) ?_
    refine x_lenI (pc := 10) C S 1 rfl rfl dX7_copyRow_10 ?_
    refine lv_icmp_ge (tgt := 26) (pc := 11) hx hb dX7_copyRow_11 (by decide) (fun c2 => ?_) (fun c2 => ?_)
    · have hf := ifp c2 hf
      cases hf
      exact x_vret (pc := 26) C S dX7_copyRow_26
    · have hf := ifn c2 hf
      refine lv_aload_n (pc := 14) hx hb dX7_copyRow_14 rfl (lv_at hl 1 rfl) ?_
      refine lv_iload_n (pc := 15) hx hb dX7_copyRow_15 rfl (lv_at hl 2 rfl) ?_
      refine lv_aload_n (pc := 16) hx hb dX7_copyRow_16 rfl (lv_at hl 0 rfl) ?_
      refine lv_iload_n (pc := 17) hx hb dX7_copyRow_17 rfl (lv_at hl 2 rfl) ?_
      obtain ⟨hv3, hf⟩ := gI_e hf
      refine x_iald (pc := 18) C S 0 rfl hv3 dX7_copyRow_18 ?_
      obtain ⟨hv4, hf⟩ := gI_e hf
      refine x_iast (pc := 19) (ws' := (w_X7_copyRow G a_p0 a_p1 n_p0 n_p1 p0 (upd p1 x2.toNatClampNeg (p0 x2.toNatClampNeg)))) C S 1 rfl hv4 rfl dX7_copyRow_19 (fun H locs S => ?_)
      refine lv_iinc (pc := 20) (v := (x2 + (1 : Int32))) (lv' := [(2, .int (x2 + (1 : Int32))), (0, .ref a_p0), (1, .ref a_p1)]) hx hb dX7_copyRow_20 hl (k := 2) rfl (congrArg (fun z => x2 + z) ic_1) (by decide) rfl (fun ls hl => ?_)
      refine lv_goto (tgt := 2) (pc := 23) hx hb dX7_copyRow_23 (by decide) ?_
      exact hk2 ((x2 + (1 : Int32))) ((upd p1 x2.toNatClampNeg (p0 x2.toNatClampNeg)))  hf S (lv_sub hl [1, 2, 0] rfl)
set_option maxRecDepth 100000 in
set_option maxHeartbeats 4000000 in
theorem h_X7_copyRow_2 (C : Cx p s m args meth c cX7_copyRow none 3 RX7 G A) (p0 : Nat → Int32) (n : Nat) (x : Int32 × (Nat → Int32)) (hf : lp (fun k x => b_X7_copyRow_2 n_p0 n_p1 p0 k x.1 x.2) n x = some z_p1) {H : Heap} {locs : List Loc} {ls : Array Slot} (S : St G A s.heap H locs (w_X7_copyRow G a_p0 a_p1 n_p0 n_p1 p0 x.2)) (hl : lv_has ls 3 [(0, .ref a_p0), (1, .ref a_p1), (2, .int x.1)]) : W p l e rm_X7_copyRow s m args below meth c H locs 0 0 (QV G below args s A (w_X7_copyRow G a_p0 a_p1 n_p0 n_p1 p0 z_p1)) (F0 m 2 ls []) :=
  lp_ind (P := fun x => ∀ {H : Heap} {locs : List Loc} {ls : Array Slot}, St G A s.heap H locs (w_X7_copyRow G a_p0 a_p1 n_p0 n_p1 p0 x.2) → lv_has ls 3 [(0, .ref a_p0), (1, .ref a_p1), (2, .int x.1)] → W p l e rm_X7_copyRow s m args below meth c H locs 0 0 (QV G below args s A (w_X7_copyRow G a_p0 a_p1 n_p0 n_p1 p0 z_p1)) (F0 m 2 ls [])) (fun k hk x hf _ _ _ S hl => k_X7_copyRow_2 C p0 x.2 x.1  k (fun x2' p1'  h S hl => hk (x2', p1') h S hl) hf S hl) n x hf S hl
set_option maxRecDepth 100000 in
set_option maxHeartbeats 4000000 in
theorem c_X7_copyRow (l : Launch) (G : GE) (a_p0 a_p1 : Nat) (n_p0 : Nat) (n_p1 : Nat) (p0 : Nat → Int32) (p1 : Nat → Int32) (z_p1 : Nat → Int32) (hf : f_X7_copyRow n_p0 n_p1 p0 p1 = some z_p1) : CV l G yX7_copyRow kw_X7_copyRow rm_X7_copyRow [.ref a_p0, .ref a_p1] (w_X7_copyRow G a_p0 a_p1 n_p0 n_p1 p0 p1) (w_X7_copyRow G a_p0 a_p1 n_p0 n_p1 p0 z_p1) := by
  refine en_V (cc := cX7_copyRow) (maxL := 3) (ret := none) (by decide +kernel) (Nat.le_of_ble_eq_true rfl) ?_
  intro p e s m args below meth c A ls C S hl
  have hl : lv_has ls 3 [(0, .ref a_p0), (1, .ref a_p1)] := hl
  have C : Cx p s m args meth c cX7_copyRow none 3 RX7 G A := C
  unfold f_X7_copyRow at hf
  have hx := C.1
  have hb := C.2.1
  have hown := C.2.2.2.2.1
  have hts := C.2.2.2.2.2.1
  have hN := C.2.2.2.2.2.2.2.2.2.2
  refine lv_iconst (pc := 0) hx hb dX7_copyRow_0 ic_0 ?_
  refine lv_istore_n (pc := 1) (lv' := [(2, .int (0 : Int32)), (0, .ref a_p0), (1, .ref a_p1)]) hx hb dX7_copyRow_1 rfl hl (by decide) rfl (fun ls hl => ?_)
  exact h_X7_copyRow_2 C (p0) fu ((0 : Int32), p1) hf S (lv_sub hl [1, 2, 0] rfl)
end
abbrev rm_X3_copyFrom : Room := { frames := 1, cells := 0, slots := 0, locals := 22 }
abbrev kw_X3_copyFrom : Cond := .code yX3_copyFrom cX3_copyFrom 2 none
abbrev w_X3_copyFrom (G : GE) (a_t a_t_left a_t_right a_p1 a_p1_left a_p1_right : Nat) (t_size : Int32) (t_left : Nat → Int32) (t_right : Nat → Int32) (p1_size : Int32) (p1_left : Nat → Int32) (p1_right : Nat → Int32) : va_W := [(a_t, ob 3 [.ref a_t_left, .ref a_t_right, .int t_size]), (a_t_left, aI G 8 t_left), (a_t_right, aI G 8 t_right), (a_p1, ob 3 [.ref a_p1_left, .ref a_p1_right, .int p1_size]), (a_p1_left, aI G 8 p1_left), (a_p1_right, aI G 8 p1_right)]
theorem u_X3_copyFrom_X7_copyRow_22 {s : State} {args : Array Value} (hts : ∀ w ∈ WU, w.before args s = true) (hN : Nx s) : va_CN rm_X3_copyFrom s args RX3 22 yX7_copyRow RX7 cX7_copyRow 3 none (kw_X7_copyRow :: WU) rm_X7_copyRow 0 0 2 ∧ (Cond.static yX7_copyRow).before args s = true ∧ True := ⟨va_cnB 2 hts (gW qc_X7_copyRow) rfl rfl rfl (hN.1 _ (by decide +kernel : (RX3, 22, yX7_copyRow) ∈ nstM)) (hts _ qn_7) (by decide +kernel) ⟨Nat.le_of_ble_eq_true rfl, Nat.le_of_ble_eq_true rfl⟩, hts _ qs_X7_copyRow, trivial⟩
section
variable {p : Program} {l : Launch} {e : Env} {s : State} {m : MethodId} {args : Array Value} {below : List Frame} {meth : Method} {c : Code} {A : Nat → Prop} {G : GE} {a_t a_t_left a_t_right a_p1 a_p1_left a_p1_right : Nat} {z_t_left : Nat → Int32} {z_t_right : Nat → Int32} {z_t_size : Int32}
set_option maxRecDepth 100000 in
set_option maxHeartbeats 4000000 in
theorem c_X3_copyFrom (l : Launch) (G : GE) (a_t a_t_left a_t_right a_p1 a_p1_left a_p1_right : Nat) (t_size : Int32) (t_left : Nat → Int32) (t_right : Nat → Int32) (p1_size : Int32) (p1_left : Nat → Int32) (p1_right : Nat → Int32) (z_t_left : Nat → Int32) (z_t_right : Nat → Int32) (z_t_size : Int32) (hf : f_X3_copyFrom t_left t_right p1_left p1_right p1_size = some (z_t_left, z_t_right, z_t_size)) : CV l G yX3_copyFrom kw_X3_copyFrom rm_X3_copyFrom [.ref a_t, .ref a_p1] (w_X3_copyFrom G a_t a_t_left a_t_right a_p1 a_p1_left a_p1_right t_size t_left t_right p1_size p1_left p1_right) (w_X3_copyFrom G a_t a_t_left a_t_right a_p1 a_p1_left a_p1_right z_t_size z_t_left z_t_right p1_size p1_left p1_right) := by
  refine en_V (cc := cX3_copyFrom) (maxL := 2) (ret := none) (by decide +kernel) (Nat.le_of_ble_eq_true rfl) ?_
  intro p e s m args below meth c A ls C S hl
  have hl : lv_has ls 2 [(0, .ref a_t), (1, .ref a_p1)] := hl
  have C : Cx p s m args meth c cX3_copyFrom none 2 RX3 G A := C
  unfold f_X3_copyFrom at hf
  have hx := C.1
  have hb := C.2.1
  have hown := C.2.2.2.2.1
  have hts := C.2.2.2.2.2.1
  have hN := C.2.2.2.2.2.2.2.2.2.2
  refine lv_aload_n (pc := 0) hx hb dX3_copyFrom_0 rfl (lv_at hl 1 rfl) ?_
  refine x_get (pc := 1) (ci := 3) (T := TX3) (v := .ref a_p1_left) C S 3 rfl rfl inlX3 0 (by decide) rfl qf_3_9 rfl dX3_copyFrom_1 ?_
  refine lv_aload_n (pc := 4) hx hb dX3_copyFrom_4 rfl (lv_at hl 0 rfl) ?_
  refine x_get (pc := 5) (ci := 3) (T := TX3) (v := .ref a_t_left) C S 0 rfl rfl inlX3 0 (by decide) rfl qf_3_9 rfl dX3_copyFrom_5 ?_
  obtain ⟨o1_t_left, hq1, hf⟩ := bd_e hf
  refine x_nV (pc := 8) (As := [.ref a_p1_left, .ref a_t_left]) (rest := []) (isC := [4, 1]) (ws' := (w_X3_copyFrom G a_t a_t_left a_t_right a_p1 a_p1_left a_p1_right t_size o1_t_left t_right p1_size p1_left p1_right)) C S (c_X7_copyRow l G a_p1_left a_t_left 8 8 p1_left t_left o1_t_left hq1) (u_X3_copyFrom_X7_copyRow_22 hts hN) rfl rfl rfl rfl rfl hl.1 rfl (Nat.le_of_ble_eq_true rfl) dX3_copyFrom_8 (fun H locs S => ?_)
  refine lv_aload_n (pc := 11) hx hb dX3_copyFrom_11 rfl (lv_at hl 1 rfl) ?_
  refine x_get (pc := 12) (ci := 3) (T := TX3) (v := .ref a_p1_right) C S 3 rfl rfl inlX3 1 (by decide) rfl qf_3_15 rfl dX3_copyFrom_12 ?_
  refine lv_aload_n (pc := 15) hx hb dX3_copyFrom_15 rfl (lv_at hl 0 rfl) ?_
  refine x_get (pc := 16) (ci := 3) (T := TX3) (v := .ref a_t_right) C S 0 rfl rfl inlX3 1 (by decide) rfl qf_3_15 rfl dX3_copyFrom_16 ?_
  obtain ⟨o2_t_right, hq2, hf⟩ := bd_e hf
  refine x_nV (pc := 19) (As := [.ref a_p1_right, .ref a_t_right]) (rest := []) (isC := [5, 2]) (ws' := (w_X3_copyFrom G a_t a_t_left a_t_right a_p1 a_p1_left a_p1_right t_size o1_t_left o2_t_right p1_size p1_left p1_right)) C S (c_X7_copyRow l G a_p1_right a_t_right 8 8 p1_right t_right o2_t_right hq2) (u_X3_copyFrom_X7_copyRow_22 hts hN) rfl rfl rfl rfl rfl hl.1 rfl (Nat.le_of_ble_eq_true rfl) dX3_copyFrom_19 (fun H locs S => ?_)
  refine lv_aload_n (pc := 22) hx hb dX3_copyFrom_22 rfl (lv_at hl 0 rfl) ?_
  refine lv_aload_n (pc := 23) hx hb dX3_copyFrom_23 rfl (lv_at hl 1 rfl) ?_
  refine x_get (pc := 24) (ci := 3) (T := TX3) (v := .int p1_size) C S 3 rfl rfl inlX3 2 (by decide) rfl qf_3_18 rfl dX3_copyFrom_24 ?_
  refine x_put (pc := 27) (ci := 3) (T := TX3) (ws' := (w_X3_copyFrom G a_t a_t_left a_t_right a_p1 a_p1_left a_p1_right p1_size o1_t_left o2_t_right p1_size p1_left p1_right)) C S tyX3 tyX3_ok nmX3 0 rfl rfl inlX3 2 (by decide) rfl qf_3_18 rfl rfl rfl rfl (Nat.le_of_ble_eq_true rfl) rfl dX3_copyFrom_27 (fun H locs S => ?_)
  cases hf
  exact x_vret (pc := 30) C S dX3_copyFrom_30
end
abbrev rm_X3_empty : Room := { frames := 0, cells := 0, slots := 0, locals := 0 }
abbrev kw_X3_empty : Cond := .code yX3_empty cX3_empty 1 (some .int)
abbrev w_X3_empty (G : GE) (a_t a_t_left a_t_right : Nat) (t_size : Int32) : va_W := [(a_t, ob 3 [.ref a_t_left, .ref a_t_right, .int t_size])]
section
variable {p : Program} {l : Launch} {e : Env} {s : State} {m : MethodId} {args : Array Value} {below : List Frame} {meth : Method} {c : Code} {A : Nat → Prop} {G : GE} {a_t a_t_left a_t_right : Nat} {r : Int32} {z_t_size : Int32}
set_option maxRecDepth 100000 in
set_option maxHeartbeats 4000000 in
theorem c_X3_empty (l : Launch) (G : GE) (a_t a_t_left a_t_right : Nat) (t_size : Int32) (r : Int32) (z_t_size : Int32) (hf : f_X3_empty = some (r, z_t_size)) : CI l G yX3_empty kw_X3_empty rm_X3_empty [.ref a_t] (w_X3_empty G a_t a_t_left a_t_right t_size) r (w_X3_empty G a_t a_t_left a_t_right z_t_size) := by
  refine en_I (cc := cX3_empty) (maxL := 1) (ret := (some .int)) (by decide +kernel) (Nat.le_of_ble_eq_true rfl) ?_
  intro p e s m args below meth c A ls C S hl
  have hl : lv_has ls 1 [(0, .ref a_t)] := hl
  have C : Cx p s m args meth c cX3_empty (some .int) 1 RX3 G A := C
  unfold f_X3_empty at hf
  have hx := C.1
  have hb := C.2.1
  have hown := C.2.2.2.2.1
  have hts := C.2.2.2.2.2.1
  have hN := C.2.2.2.2.2.2.2.2.2.2
  refine lv_aload_n (pc := 0) hx hb dX3_empty_0 rfl (lv_at hl 0 rfl) ?_
  refine lv_iconst (pc := 1) hx hb dX3_empty_1 ic_0 ?_
  refine x_put (pc := 2) (ci := 3) (T := TX3) (ws' := (w_X3_empty G a_t a_t_left a_t_right (0 : Int32))) C S tyX3 tyX3_ok nmX3 0 rfl rfl inlX3 2 (by decide) rfl qf_3_18 rfl rfl rfl rfl (Nat.le_of_ble_eq_true rfl) rfl dX3_empty_2 (fun H locs S => ?_)
  refine lv_iconst (pc := 5) hx hb dX3_empty_5 ic_0 ?_
  cases hf
  exact x_iret (pc := 6) C S dX3_empty_6
end
abbrev rm_X4_append : Room := { frames := 0, cells := 0, slots := 0, locals := 0 }
abbrev kw_X4_append : Cond := .code yX4_append cX4_append 2 (some .int)
abbrev w_X4_append (G : GE) (a_t a_t_signs a_t_facts : Nat) (t_size : Int32) (t_clauses : Int32) (t_next : Int32) (t_fault : Int32) (t_signs : Nat → Int32) : va_W := [(a_t, ob 4 [.ref a_t_signs, .ref a_t_facts, .int t_size, .int t_clauses, .int t_next, .int t_fault]), (a_t_signs, aI G 100 t_signs)]
section
variable {p : Program} {l : Launch} {e : Env} {s : State} {m : MethodId} {args : Array Value} {below : List Frame} {meth : Method} {c : Code} {A : Nat → Prop} {G : GE} {a_t a_t_signs a_t_facts : Nat} {r : Int32} {z_t_signs : Nat → Int32} {z_t_size : Int32}
set_option maxRecDepth 100000 in
set_option maxHeartbeats 4000000 in
theorem c_X4_append (l : Launch) (G : GE) (a_t a_t_signs a_t_facts : Nat) (t_size : Int32) (t_clauses : Int32) (t_next : Int32) (t_fault : Int32) (t_signs : Nat → Int32) (x1 : Int32) (r : Int32) (z_t_signs : Nat → Int32) (z_t_size : Int32) (hf : f_X4_append t_signs t_size x1 = some (r, z_t_signs, z_t_size)) : CI l G yX4_append kw_X4_append rm_X4_append [.ref a_t, .int x1] (w_X4_append G a_t a_t_signs a_t_facts t_size t_clauses t_next t_fault t_signs) r (w_X4_append G a_t a_t_signs a_t_facts z_t_size t_clauses t_next t_fault z_t_signs) := by
  refine en_I (cc := cX4_append) (maxL := 2) (ret := (some .int)) (by decide +kernel) (Nat.le_of_ble_eq_true rfl) ?_
  intro p e s m args below meth c A ls C S hl
  have hl : lv_has ls 2 [(0, .ref a_t), (1, .int x1)] := hl
  have C : Cx p s m args meth c cX4_append (some .int) 2 RX4 G A := C
  unfold f_X4_append at hf
  have hx := C.1
  have hb := C.2.1
  have hown := C.2.2.2.2.1
  have hts := C.2.2.2.2.2.1
  have hN := C.2.2.2.2.2.2.2.2.2.2
  refine lv_aload_n (pc := 0) hx hb dX4_append_0 rfl (lv_at hl 0 rfl) ?_
  refine x_get (pc := 1) (ci := 4) (T := TX4) (v := .int t_size) C S 0 rfl rfl inlX4 2 (by decide) rfl qf_4_18 rfl dX4_append_1 ?_
  refine lv_if_lt (tgt := 36) (pc := 4) hx hb dX4_append_4 (by decide) (fun c1 => ?_) (fun c1 => ?_)
  · have hf := ifp c1 hf
    refine lv_aload_n (pc := 36) hx hb dX4_append_36 rfl (lv_at hl 0 rfl) ?_
    refine x_get (pc := 37) (ci := 4) (T := TX4) (v := .int t_size) C S 0 rfl rfl inlX4 2 (by decide) rfl qf_4_18 rfl dX4_append_37 ?_
    cases hf
    exact x_iret (pc := 40) C S dX4_append_40
  · have hf := ifn c1 hf
    refine lv_aload_n (pc := 7) hx hb dX4_append_7 rfl (lv_at hl 0 rfl) ?_
    refine x_get (pc := 8) (ci := 4) (T := TX4) (v := .int t_size) C S 0 rfl rfl inlX4 2 (by decide) rfl qf_4_18 rfl dX4_append_8 ?_
    refine lv_bipush (pc := 11) hx hb dX4_append_11 bc_100 ?_
    refine lv_icmp_ge (tgt := 36) (pc := 13) hx hb dX4_append_13 (by decide) (fun c2 => ?_) (fun c2 => ?_)
    · have hf := ifp c2 hf
      refine lv_aload_n (pc := 36) hx hb dX4_append_36 rfl (lv_at hl 0 rfl) ?_
      refine x_get (pc := 37) (ci := 4) (T := TX4) (v := .int t_size) C S 0 rfl rfl inlX4 2 (by decide) rfl qf_4_18 rfl dX4_append_37 ?_
      cases hf
      exact x_iret (pc := 40) C S dX4_append_40
    · have hf := ifn c2 hf
      refine lv_aload_n (pc := 16) hx hb dX4_append_16 rfl (lv_at hl 0 rfl) ?_
      refine x_get (pc := 17) (ci := 4) (T := TX4) (v := .ref a_t_signs) C S 0 rfl rfl inlX4 0 (by decide) rfl qf_4_9 rfl dX4_append_17 ?_
      refine lv_aload_n (pc := 20) hx hb dX4_append_20 rfl (lv_at hl 0 rfl) ?_
      refine x_get (pc := 21) (ci := 4) (T := TX4) (v := .int t_size) C S 0 rfl rfl inlX4 2 (by decide) rfl qf_4_18 rfl dX4_append_21 ?_
      refine lv_iload_n (pc := 24) hx hb dX4_append_24 rfl (lv_at hl 1 rfl) ?_
      obtain ⟨hv3, hf⟩ := gI_e hf
      refine x_iast (pc := 25) (ws' := (w_X4_append G a_t a_t_signs a_t_facts t_size t_clauses t_next t_fault (upd t_signs t_size.toNatClampNeg x1))) C S 1 rfl hv3 rfl dX4_append_25 (fun H locs S => ?_)
      refine lv_aload_n (pc := 26) hx hb dX4_append_26 rfl (lv_at hl 0 rfl) ?_
      refine lv_dup (pc := 27) hx hb dX4_append_27 rfl ?_
      refine x_get (pc := 28) (ci := 4) (T := TX4) (v := .int t_size) C S 0 rfl rfl inlX4 2 (by decide) rfl qf_4_18 rfl dX4_append_28 ?_
      refine lv_iconst (pc := 31) hx hb dX4_append_31 ic_1 ?_
      refine lv_iadd (pc := 32) hx hb dX4_append_32 ?_
      refine x_put (pc := 33) (ci := 4) (T := TX4) (ws' := (w_X4_append G a_t a_t_signs a_t_facts (t_size + (1 : Int32)) t_clauses t_next t_fault (upd t_signs t_size.toNatClampNeg x1))) C S tyX4 tyX4_ok nmX4 0 rfl rfl inlX4 2 (by decide) rfl qf_4_18 rfl rfl rfl rfl (Nat.le_of_ble_eq_true rfl) rfl dX4_append_33 (fun H locs S => ?_)
      refine lv_aload_n (pc := 36) hx hb dX4_append_36 rfl (lv_at hl 0 rfl) ?_
      refine x_get (pc := 37) (ci := 4) (T := TX4) (v := .int (t_size + (1 : Int32))) C S 0 rfl rfl inlX4 2 (by decide) rfl qf_4_18 rfl dX4_append_37 ?_
      cases hf
      exact x_iret (pc := 40) C S dX4_append_40
end
abbrev rm_X4_nextSign : Room := { frames := 0, cells := 0, slots := 0, locals := 0 }
abbrev kw_X4_nextSign : Cond := .code yX4_nextSign cX4_nextSign 1 (some .int)
abbrev w_X4_nextSign (G : GE) (a_t a_t_signs a_t_facts : Nat) (t_size : Int32) (t_clauses : Int32) (t_next : Int32) (t_fault : Int32) (t_signs : Nat → Int32) : va_W := [(a_t, ob 4 [.ref a_t_signs, .ref a_t_facts, .int t_size, .int t_clauses, .int t_next, .int t_fault]), (a_t_signs, aI G 100 t_signs)]
section
variable {p : Program} {l : Launch} {e : Env} {s : State} {m : MethodId} {args : Array Value} {below : List Frame} {meth : Method} {c : Code} {A : Nat → Prop} {G : GE} {a_t a_t_signs a_t_facts : Nat} {r : Int32}
set_option maxRecDepth 100000 in
set_option maxHeartbeats 4000000 in
theorem c_X4_nextSign (l : Launch) (G : GE) (a_t a_t_signs a_t_facts : Nat) (t_size : Int32) (t_clauses : Int32) (t_next : Int32) (t_fault : Int32) (t_signs : Nat → Int32) (r : Int32) (hf : f_X4_nextSign t_signs t_size t_next = some r) : CI l G yX4_nextSign kw_X4_nextSign rm_X4_nextSign [.ref a_t] (w_X4_nextSign G a_t a_t_signs a_t_facts t_size t_clauses t_next t_fault t_signs) r (w_X4_nextSign G a_t a_t_signs a_t_facts t_size t_clauses t_next t_fault t_signs) := by
  refine en_I (cc := cX4_nextSign) (maxL := 1) (ret := (some .int)) (by decide +kernel) (Nat.le_of_ble_eq_true rfl) ?_
  intro p e s m args below meth c A ls C S hl
  have hl : lv_has ls 1 [(0, .ref a_t)] := hl
  have C : Cx p s m args meth c cX4_nextSign (some .int) 1 RX4 G A := C
  unfold f_X4_nextSign at hf
  have hx := C.1
  have hb := C.2.1
  have hown := C.2.2.2.2.1
  have hts := C.2.2.2.2.2.1
  have hN := C.2.2.2.2.2.2.2.2.2.2
  refine lv_aload_n (pc := 0) hx hb dX4_nextSign_0 rfl (lv_at hl 0 rfl) ?_
  refine x_get (pc := 1) (ci := 4) (T := TX4) (v := .int t_next) C S 0 rfl rfl inlX4 4 (by decide) rfl qf_4_22 rfl dX4_nextSign_1 ?_
  refine lv_if_lt (tgt := 39) (pc := 4) hx hb dX4_nextSign_4 (by decide) (fun c1 => ?_) (fun c1 => ?_)
  · have hf := ifp c1 hf
    refine lv_iconst (pc := 39) hx hb dX4_nextSign_39 ic_m1 ?_
    cases hf
    exact x_iret (pc := 40) C S dX4_nextSign_40
  · have hf := ifn c1 hf
    refine lv_aload_n (pc := 7) hx hb dX4_nextSign_7 rfl (lv_at hl 0 rfl) ?_
    refine x_get (pc := 8) (ci := 4) (T := TX4) (v := .int t_next) C S 0 rfl rfl inlX4 4 (by decide) rfl qf_4_22 rfl dX4_nextSign_8 ?_
    refine lv_aload_n (pc := 11) hx hb dX4_nextSign_11 rfl (lv_at hl 0 rfl) ?_
    refine x_get (pc := 12) (ci := 4) (T := TX4) (v := .int t_size) C S 0 rfl rfl inlX4 2 (by decide) rfl qf_4_18 rfl dX4_nextSign_12 ?_
    refine lv_icmp_ge (tgt := 39) (pc := 15) hx hb dX4_nextSign_15 (by decide) (fun c2 => ?_) (fun c2 => ?_)
    · have hf := ifp c2 hf
      refine lv_iconst (pc := 39) hx hb dX4_nextSign_39 ic_m1 ?_
      cases hf
      exact x_iret (pc := 40) C S dX4_nextSign_40
    · have hf := ifn c2 hf
      refine lv_aload_n (pc := 18) hx hb dX4_nextSign_18 rfl (lv_at hl 0 rfl) ?_
      refine x_get (pc := 19) (ci := 4) (T := TX4) (v := .int t_next) C S 0 rfl rfl inlX4 4 (by decide) rfl qf_4_22 rfl dX4_nextSign_19 ?_
      refine lv_bipush (pc := 22) hx hb dX4_nextSign_22 bc_100 ?_
      refine lv_icmp_ge (tgt := 39) (pc := 24) hx hb dX4_nextSign_24 (by decide) (fun c3 => ?_) (fun c3 => ?_)
      · have hf := ifp c3 hf
        refine lv_iconst (pc := 39) hx hb dX4_nextSign_39 ic_m1 ?_
        cases hf
        exact x_iret (pc := 40) C S dX4_nextSign_40
      · have hf := ifn c3 hf
        refine lv_aload_n (pc := 27) hx hb dX4_nextSign_27 rfl (lv_at hl 0 rfl) ?_
        refine x_get (pc := 28) (ci := 4) (T := TX4) (v := .ref a_t_signs) C S 0 rfl rfl inlX4 0 (by decide) rfl qf_4_9 rfl dX4_nextSign_28 ?_
        refine lv_aload_n (pc := 31) hx hb dX4_nextSign_31 rfl (lv_at hl 0 rfl) ?_
        refine x_get (pc := 32) (ci := 4) (T := TX4) (v := .int t_next) C S 0 rfl rfl inlX4 4 (by decide) rfl qf_4_22 rfl dX4_nextSign_32 ?_
        obtain ⟨hv4, hf⟩ := gI_e hf
        refine x_iald (pc := 35) C S 1 rfl hv4 dX4_nextSign_35 ?_
        refine lv_goto (tgt := 40) (pc := 36) hx hb dX4_nextSign_36 (by decide) ?_
        cases hf
        exact x_iret (pc := 40) C S dX4_nextSign_40
end
abbrev rm_X4_skip : Room := { frames := 1, cells := 0, slots := 0, locals := 20 }
abbrev kw_X4_skip : Cond := .code yX4_skip cX4_skip 2 (some .boolean)
abbrev w_X4_skip (G : GE) (a_t a_t_signs a_t_facts : Nat) (t_size : Int32) (t_clauses : Int32) (t_next : Int32) (t_fault : Int32) (t_signs : Nat → Int32) : va_W := [(a_t, ob 4 [.ref a_t_signs, .ref a_t_facts, .int t_size, .int t_clauses, .int t_next, .int t_fault]), (a_t_signs, aI G 100 t_signs)]
theorem u_X4_skip_X4_nextSign_57 {s : State} {args : Array Value} (hts : ∀ w ∈ WU, w.before args s = true) : CallW rm_X4_skip s args RX4 RX4 57 yX4_nextSign cX4_nextSign 1 (some .int) (kw_X4_nextSign :: WU) rm_X4_nextSign 0 0 0 := cwV 0 hts (gV qm_4_57 qi_X4_nextSign ql_X4_nextSign qn_4 qc_X4_nextSign) rfl rfl rfl (by decide +kernel) ⟨Nat.le_of_ble_eq_true rfl, Nat.le_of_ble_eq_true rfl⟩
section
variable {p : Program} {l : Launch} {e : Env} {s : State} {m : MethodId} {args : Array Value} {below : List Frame} {meth : Method} {c : Code} {A : Nat → Prop} {G : GE} {a_t a_t_signs a_t_facts : Nat} {r : Int32} {z_t_next : Int32}
set_option maxRecDepth 100000 in
set_option maxHeartbeats 4000000 in
theorem c_X4_skip (l : Launch) (G : GE) (a_t a_t_signs a_t_facts : Nat) (t_size : Int32) (t_clauses : Int32) (t_next : Int32) (t_fault : Int32) (t_signs : Nat → Int32) (x1 : Int32) (r : Int32) (z_t_next : Int32) (hf : f_X4_skip t_signs t_size t_next t_fault x1 = some (r, z_t_next)) : CI l G yX4_skip kw_X4_skip rm_X4_skip [.ref a_t, .int x1] (w_X4_skip G a_t a_t_signs a_t_facts t_size t_clauses t_next t_fault t_signs) r (w_X4_skip G a_t a_t_signs a_t_facts t_size t_clauses z_t_next t_fault t_signs) := by
  refine en_I (cc := cX4_skip) (maxL := 2) (ret := (some .boolean)) (by decide +kernel) (Nat.le_of_ble_eq_true rfl) ?_
  intro p e s m args below meth c A ls C S hl
  have hl : lv_has ls 2 [(0, .ref a_t), (1, .int x1)] := hl
  have C : Cx p s m args meth c cX4_skip (some .boolean) 2 RX4 G A := C
  unfold f_X4_skip at hf
  have hx := C.1
  have hb := C.2.1
  have hown := C.2.2.2.2.1
  have hts := C.2.2.2.2.2.1
  have hN := C.2.2.2.2.2.2.2.2.2.2
  refine lv_aload_n (pc := 0) hx hb dX4_skip_0 rfl (lv_at hl 0 rfl) ?_
  refine x_get (pc := 1) (ci := 4) (T := TX4) (v := .int t_fault) C S 0 rfl rfl inlX4 5 (by decide) rfl qf_4_25 rfl dX4_skip_1 ?_
  refine lv_if_ge (tgt := 15) (pc := 4) hx hb dX4_skip_4 (by decide) (fun c1 => ?_) (fun c1 => ?_)
  · have hf := ifp c1 hf
    refine lv_iconst (pc := 15) hx hb dX4_skip_15 ic_0 ?_
    cases hf
    exact x_zret (pc := 16) (by decide) C S dX4_skip_16
  · have hf := ifn c1 hf
    refine lv_aload_n (pc := 7) hx hb dX4_skip_7 rfl (lv_at hl 0 rfl) ?_
    obtain ⟨r2, hq2, hf⟩ := bd_e hf
    refine x_vI (pc := 8) (As := []) (rest := []) (isC := [0, 1]) (ws' := (w_X4_skip G a_t a_t_signs a_t_facts t_size t_clauses t_next t_fault t_signs)) C S (c_X4_nextSign l G a_t a_t_signs a_t_facts t_size t_clauses t_next t_fault t_signs r2 hq2) (u_X4_skip_X4_nextSign_57 hts) (ci := 4) rfl 0 rfl rfl rfl rfl rfl rfl hl.1 rfl (Nat.le_of_ble_eq_true rfl) dX4_skip_8 (fun H locs S => ?_)
    refine lv_iload_n (pc := 11) hx hb dX4_skip_11 rfl (lv_at hl 1 rfl) ?_
    refine lv_icmp_eq (tgt := 17) (pc := 12) hx hb dX4_skip_12 (by decide) (fun c3 => ?_) (fun c3 => ?_)
    · have hf := ifp c3 hf
      refine lv_aload_n (pc := 17) hx hb dX4_skip_17 rfl (lv_at hl 0 rfl) ?_
      refine lv_dup (pc := 18) hx hb dX4_skip_18 rfl ?_
      refine x_get (pc := 19) (ci := 4) (T := TX4) (v := .int t_next) C S 0 rfl rfl inlX4 4 (by decide) rfl qf_4_22 rfl dX4_skip_19 ?_
      refine lv_iconst (pc := 22) hx hb dX4_skip_22 ic_1 ?_
      refine lv_iadd (pc := 23) hx hb dX4_skip_23 ?_
      refine x_put (pc := 24) (ci := 4) (T := TX4) (ws' := (w_X4_skip G a_t a_t_signs a_t_facts t_size t_clauses (t_next + (1 : Int32)) t_fault t_signs)) C S tyX4 tyX4_ok nmX4 0 rfl rfl inlX4 4 (by decide) rfl qf_4_22 rfl rfl rfl rfl (Nat.le_of_ble_eq_true rfl) rfl dX4_skip_24 (fun H locs S => ?_)
      refine lv_iconst (pc := 27) hx hb dX4_skip_27 ic_1 ?_
      cases hf
      exact x_zret (pc := 28) (by decide) C S dX4_skip_28
    · have hf := ifn c3 hf
      refine lv_iconst (pc := 15) hx hb dX4_skip_15 ic_0 ?_
      cases hf
      exact x_zret (pc := 16) (by decide) C S dX4_skip_16
end
abbrev rm_X4_expect : Room := { frames := 2, cells := 0, slots := 0, locals := 41 }
abbrev kw_X4_expect : Cond := .code yX4_expect cX4_expect 2 none
abbrev w_X4_expect (G : GE) (a_t a_t_signs a_t_facts : Nat) (t_size : Int32) (t_clauses : Int32) (t_next : Int32) (t_fault : Int32) (t_signs : Nat → Int32) : va_W := [(a_t, ob 4 [.ref a_t_signs, .ref a_t_facts, .int t_size, .int t_clauses, .int t_next, .int t_fault]), (a_t_signs, aI G 100 t_signs)]
theorem u_X4_expect_X4_skip_35 {s : State} {args : Array Value} (hts : ∀ w ∈ WU, w.before args s = true) : CallW rm_X4_expect s args RX4 RX4 35 yX4_skip cX4_skip 2 (some .boolean) (kw_X4_skip :: WU) rm_X4_skip 0 0 1 := cwV 1 hts (gV qm_4_35 qi_X4_skip ql_X4_skip qn_4 qc_X4_skip) rfl rfl rfl (by decide +kernel) ⟨Nat.le_of_ble_eq_true rfl, Nat.le_of_ble_eq_true rfl⟩
section
variable {p : Program} {l : Launch} {e : Env} {s : State} {m : MethodId} {args : Array Value} {below : List Frame} {meth : Method} {c : Code} {A : Nat → Prop} {G : GE} {a_t a_t_signs a_t_facts : Nat} {z_t_next : Int32} {z_t_fault : Int32}
set_option maxRecDepth 100000 in
set_option maxHeartbeats 4000000 in
theorem c_X4_expect (l : Launch) (G : GE) (a_t a_t_signs a_t_facts : Nat) (t_size : Int32) (t_clauses : Int32) (t_next : Int32) (t_fault : Int32) (t_signs : Nat → Int32) (x1 : Int32) (z_t_next : Int32) (z_t_fault : Int32) (hf : f_X4_expect t_signs t_size t_next t_fault x1 = some (z_t_next, z_t_fault)) : CV l G yX4_expect kw_X4_expect rm_X4_expect [.ref a_t, .int x1] (w_X4_expect G a_t a_t_signs a_t_facts t_size t_clauses t_next t_fault t_signs) (w_X4_expect G a_t a_t_signs a_t_facts t_size t_clauses z_t_next z_t_fault t_signs) := by
  refine en_V (cc := cX4_expect) (maxL := 2) (ret := none) (by decide +kernel) (Nat.le_of_ble_eq_true rfl) ?_
  intro p e s m args below meth c A ls C S hl
  have hl : lv_has ls 2 [(0, .ref a_t), (1, .int x1)] := hl
  have C : Cx p s m args meth c cX4_expect none 2 RX4 G A := C
  unfold f_X4_expect at hf
  have hx := C.1
  have hb := C.2.1
  have hown := C.2.2.2.2.1
  have hts := C.2.2.2.2.2.1
  have hN := C.2.2.2.2.2.2.2.2.2.2
  refine lv_aload_n (pc := 0) hx hb dX4_expect_0 rfl (lv_at hl 0 rfl) ?_
  refine lv_iload_n (pc := 1) hx hb dX4_expect_1 rfl (lv_at hl 1 rfl) ?_
  obtain ⟨⟨r1, o1_t_next⟩, hq1, hf⟩ := bd_e hf
  refine x_vI (pc := 2) (As := [.int x1]) (rest := []) (isC := [0, 1]) (ws' := (w_X4_expect G a_t a_t_signs a_t_facts t_size t_clauses o1_t_next t_fault t_signs)) C S (c_X4_skip l G a_t a_t_signs a_t_facts t_size t_clauses t_next t_fault t_signs x1 r1 o1_t_next hq1) (u_X4_expect_X4_skip_35 hts) (ci := 4) rfl 0 rfl rfl rfl rfl rfl rfl hl.1 rfl (Nat.le_of_ble_eq_true rfl) dX4_expect_2 (fun H locs S => ?_)
  refine lv_if_ne (tgt := 23) (pc := 5) hx hb dX4_expect_5 (by decide) (fun c2 => ?_) (fun c2 => ?_)
  · have hf := ifn c2 hf
    cases hf
    exact x_vret (pc := 23) C S dX4_expect_23
  · have hf := ifp c2 hf
    refine lv_aload_n (pc := 8) hx hb dX4_expect_8 rfl (lv_at hl 0 rfl) ?_
    refine x_get (pc := 9) (ci := 4) (T := TX4) (v := .int t_fault) C S 0 rfl rfl inlX4 5 (by decide) rfl qf_4_25 rfl dX4_expect_9 ?_
    refine lv_if_ge (tgt := 23) (pc := 12) hx hb dX4_expect_12 (by decide) (fun c3 => ?_) (fun c3 => ?_)
    · have hf := ifp c3 hf
      cases hf
      exact x_vret (pc := 23) C S dX4_expect_23
    · have hf := ifn c3 hf
      refine lv_aload_n (pc := 15) hx hb dX4_expect_15 rfl (lv_at hl 0 rfl) ?_
      refine lv_aload_n (pc := 16) hx hb dX4_expect_16 rfl (lv_at hl 0 rfl) ?_
      refine x_get (pc := 17) (ci := 4) (T := TX4) (v := .int o1_t_next) C S 0 rfl rfl inlX4 4 (by decide) rfl qf_4_22 rfl dX4_expect_17 ?_
      refine x_put (pc := 20) (ci := 4) (T := TX4) (ws' := (w_X4_expect G a_t a_t_signs a_t_facts t_size t_clauses o1_t_next o1_t_next t_signs)) C S tyX4 tyX4_ok nmX4 0 rfl rfl inlX4 5 (by decide) rfl qf_4_25 rfl rfl rfl rfl (Nat.le_of_ble_eq_true rfl) rfl dX4_expect_20 (fun H locs S => ?_)
      cases hf
      exact x_vret (pc := 23) C S dX4_expect_23
end
abbrev rm_X4_factAt : Room := { frames := 0, cells := 0, slots := 0, locals := 0 }
abbrev kw_X4_factAt : Cond := .code yX4_factAt cX4_factAt 4 (some .int)
abbrev w_X4_factAt (G : GE) (a_t a_t_signs a_t_facts : Nat) (t_size : Int32) (t_clauses : Int32) (t_next : Int32) (t_fault : Int32) (t_facts : Nat → Int32) : va_W := [(a_t, ob 4 [.ref a_t_signs, .ref a_t_facts, .int t_size, .int t_clauses, .int t_next, .int t_fault]), (a_t_facts, aI G 36 t_facts)]
section
variable {p : Program} {l : Launch} {e : Env} {s : State} {m : MethodId} {args : Array Value} {below : List Frame} {meth : Method} {c : Code} {A : Nat → Prop} {G : GE} {a_t a_t_signs a_t_facts : Nat} {r : Int32}
set_option maxRecDepth 100000 in
set_option maxHeartbeats 4000000 in
theorem c_X4_factAt (l : Launch) (G : GE) (a_t a_t_signs a_t_facts : Nat) (t_size : Int32) (t_clauses : Int32) (t_next : Int32) (t_fault : Int32) (t_facts : Nat → Int32) (x1 : Int32) (x2 : Int32) (r : Int32) (hf : f_X4_factAt t_facts x1 x2 = some r) : CI l G yX4_factAt kw_X4_factAt rm_X4_factAt [.ref a_t, .int x1, .int x2] (w_X4_factAt G a_t a_t_signs a_t_facts t_size t_clauses t_next t_fault t_facts) r (w_X4_factAt G a_t a_t_signs a_t_facts t_size t_clauses t_next t_fault t_facts) := by
  refine en_I (cc := cX4_factAt) (maxL := 4) (ret := (some .int)) (by decide +kernel) (Nat.le_of_ble_eq_true rfl) ?_
  intro p e s m args below meth c A ls C S hl
  have hl : lv_has ls 4 [(0, .ref a_t), (1, .int x1), (2, .int x2)] := hl
  have C : Cx p s m args meth c cX4_factAt (some .int) 4 RX4 G A := C
  unfold f_X4_factAt at hf
  have hx := C.1
  have hb := C.2.1
  have hown := C.2.2.2.2.1
  have hts := C.2.2.2.2.2.1
  have hN := C.2.2.2.2.2.2.2.2.2.2
  refine lv_iload_n (pc := 0) hx hb dX4_factAt_0 rfl (lv_at hl 1 rfl) ?_
  refine lv_bipush (pc := 1) hx hb dX4_factAt_1 bc_6 ?_
  refine lv_imul (pc := 3) hx hb dX4_factAt_3 ?_
  refine lv_iload_n (pc := 4) hx hb dX4_factAt_4 rfl (lv_at hl 2 rfl) ?_
  refine lv_iadd (pc := 5) hx hb dX4_factAt_5 ?_
  refine lv_istore_n (pc := 6) (lv' := [(3, .int ((x1 * (6 : Int32)) + x2)), (0, .ref a_t), (1, .int x1), (2, .int x2)]) hx hb dX4_factAt_6 rfl hl (by decide) rfl (fun ls hl => ?_)
  refine lv_iload_n (pc := 7) hx hb dX4_factAt_7 rfl (lv_at hl 0 rfl) ?_
  refine lv_if_lt (tgt := 29) (pc := 8) hx hb dX4_factAt_8 (by decide) (fun c1 => ?_) (fun c1 => ?_)
  · have hf := ifp c1 hf
    refine lv_iconst (pc := 29) hx hb dX4_factAt_29 ic_0 ?_
    cases hf
    exact x_iret (pc := 30) C S dX4_factAt_30
  · have hf := ifn c1 hf
    refine lv_iload_n (pc := 11) hx hb dX4_factAt_11 rfl (lv_at hl 0 rfl) ?_
    refine lv_aload_n (pc := 12) hx hb dX4_factAt_12 rfl (lv_at hl 1 rfl) ?_
    refine x_get (pc := 13) (ci := 4) (T := TX4) (v := .ref a_t_facts) C S 0 rfl rfl inlX4 1 (by decide) rfl qf_4_15 rfl dX4_factAt_13 ?_
    refine x_lenI (pc := 16) C S 1 rfl nc_36 dX4_factAt_16 ?_
    refine lv_icmp_ge (tgt := 29) (pc := 17) hx hb dX4_factAt_17 (by decide) (fun c2 => ?_) (fun c2 => ?_)
    · have hf := ifp c2 hf
      refine lv_iconst (pc := 29) hx hb dX4_factAt_29 ic_0 ?_
      cases hf
      exact x_iret (pc := 30) C S dX4_factAt_30
    · have hf := ifn c2 hf
      refine lv_aload_n (pc := 20) hx hb dX4_factAt_20 rfl (lv_at hl 1 rfl) ?_
      refine x_get (pc := 21) (ci := 4) (T := TX4) (v := .ref a_t_facts) C S 0 rfl rfl inlX4 1 (by decide) rfl qf_4_15 rfl dX4_factAt_21 ?_
      refine lv_iload_n (pc := 24) hx hb dX4_factAt_24 rfl (lv_at hl 0 rfl) ?_
      obtain ⟨hv3, hf⟩ := gI_e hf
      refine x_iald (pc := 25) C S 1 rfl hv3 dX4_factAt_25 ?_
      refine lv_goto (tgt := 30) (pc := 26) hx hb dX4_factAt_26 (by decide) ?_
      cases hf
      exact x_iret (pc := 30) C S dX4_factAt_30
end
abbrev rm_X4_keepFact : Room := { frames := 0, cells := 0, slots := 0, locals := 0 }
abbrev kw_X4_keepFact : Cond := .code yX4_keepFact cX4_keepFact 5 none
abbrev w_X4_keepFact (G : GE) (a_t a_t_signs a_t_facts : Nat) (t_size : Int32) (t_clauses : Int32) (t_next : Int32) (t_fault : Int32) (t_facts : Nat → Int32) : va_W := [(a_t, ob 4 [.ref a_t_signs, .ref a_t_facts, .int t_size, .int t_clauses, .int t_next, .int t_fault]), (a_t_facts, aI G 36 t_facts)]
section
variable {p : Program} {l : Launch} {e : Env} {s : State} {m : MethodId} {args : Array Value} {below : List Frame} {meth : Method} {c : Code} {A : Nat → Prop} {G : GE} {a_t a_t_signs a_t_facts : Nat} {z_t_facts : Nat → Int32}
set_option maxRecDepth 100000 in
set_option maxHeartbeats 4000000 in
theorem c_X4_keepFact (l : Launch) (G : GE) (a_t a_t_signs a_t_facts : Nat) (t_size : Int32) (t_clauses : Int32) (t_next : Int32) (t_fault : Int32) (t_facts : Nat → Int32) (x1 : Int32) (x2 : Int32) (x3 : Int32) (z_t_facts : Nat → Int32) (hf : f_X4_keepFact t_facts x1 x2 x3 = some z_t_facts) : CV l G yX4_keepFact kw_X4_keepFact rm_X4_keepFact [.ref a_t, .int x1, .int x2, .int x3] (w_X4_keepFact G a_t a_t_signs a_t_facts t_size t_clauses t_next t_fault t_facts) (w_X4_keepFact G a_t a_t_signs a_t_facts t_size t_clauses t_next t_fault z_t_facts) := by
  refine en_V (cc := cX4_keepFact) (maxL := 5) (ret := none) (by decide +kernel) (Nat.le_of_ble_eq_true rfl) ?_
  intro p e s m args below meth c A ls C S hl
  have hl : lv_has ls 5 [(0, .ref a_t), (1, .int x1), (2, .int x2), (3, .int x3)] := hl
  have C : Cx p s m args meth c cX4_keepFact none 5 RX4 G A := C
  unfold f_X4_keepFact at hf
  have hx := C.1
  have hb := C.2.1
  have hown := C.2.2.2.2.1
  have hts := C.2.2.2.2.2.1
  have hN := C.2.2.2.2.2.2.2.2.2.2
  refine lv_iload_n (pc := 0) hx hb dX4_keepFact_0 rfl (lv_at hl 1 rfl) ?_
  refine lv_bipush (pc := 1) hx hb dX4_keepFact_1 bc_6 ?_
  refine lv_imul (pc := 3) hx hb dX4_keepFact_3 ?_
  refine lv_iload_n (pc := 4) hx hb dX4_keepFact_4 rfl (lv_at hl 2 rfl) ?_
  refine lv_iadd (pc := 5) hx hb dX4_keepFact_5 ?_
  refine lv_istore (pc := 6) (lv' := [(4, .int ((x1 * (6 : Int32)) + x2)), (0, .ref a_t), (1, .int x1), (2, .int x2), (3, .int x3)]) hx hb dX4_keepFact_6 hl (by decide) rfl (fun ls hl => ?_)
  refine lv_iload (pc := 8) hx hb dX4_keepFact_8 (lv_at hl 0 rfl) ?_
  refine lv_if_lt (tgt := 31) (pc := 10) hx hb dX4_keepFact_10 (by decide) (fun c1 => ?_) (fun c1 => ?_)
  · have hf := ifp c1 hf
    cases hf
    exact x_vret (pc := 31) C S dX4_keepFact_31
  · have hf := ifn c1 hf
    refine lv_iload (pc := 13) hx hb dX4_keepFact_13 (lv_at hl 0 rfl) ?_
    refine lv_aload_n (pc := 15) hx hb dX4_keepFact_15 rfl (lv_at hl 1 rfl) ?_
    refine x_get (pc := 16) (ci := 4) (T := TX4) (v := .ref a_t_facts) C S 0 rfl rfl inlX4 1 (by decide) rfl qf_4_15 rfl dX4_keepFact_16 ?_
    refine x_lenI (pc := 19) C S 1 rfl nc_36 dX4_keepFact_19 ?_
    refine lv_icmp_ge (tgt := 31) (pc := 20) hx hb dX4_keepFact_20 (by decide) (fun c2 => ?_) (fun c2 => ?_)
    · have hf := ifp c2 hf
      cases hf
      exact x_vret (pc := 31) C S dX4_keepFact_31
    · have hf := ifn c2 hf
      refine lv_aload_n (pc := 23) hx hb dX4_keepFact_23 rfl (lv_at hl 1 rfl) ?_
      refine x_get (pc := 24) (ci := 4) (T := TX4) (v := .ref a_t_facts) C S 0 rfl rfl inlX4 1 (by decide) rfl qf_4_15 rfl dX4_keepFact_24 ?_
      refine lv_iload (pc := 27) hx hb dX4_keepFact_27 (lv_at hl 0 rfl) ?_
      refine lv_iload_n (pc := 29) hx hb dX4_keepFact_29 rfl (lv_at hl 4 rfl) ?_
      obtain ⟨hv3, hf⟩ := gI_e hf
      refine x_iast (pc := 30) (ws' := (w_X4_keepFact G a_t a_t_signs a_t_facts t_size t_clauses t_next t_fault (upd t_facts ((x1 * (6 : Int32)) + x2).toNatClampNeg x3))) C S 1 rfl hv3 rfl dX4_keepFact_30 (fun H locs S => ?_)
      cases hf
      exact x_vret (pc := 31) C S dX4_keepFact_31
end
abbrev rm_X4_number : Room := { frames := 1, cells := 0, slots := 0, locals := 20 }
abbrev kw_X4_number : Cond := .code yX4_number cX4_number 7 (some .int)
abbrev w_X4_number (G : GE) (a_t a_t_signs a_t_facts : Nat) (t_size : Int32) (t_clauses : Int32) (t_next : Int32) (t_fault : Int32) (t_signs : Nat → Int32) : va_W := [(a_t, ob 4 [.ref a_t_signs, .ref a_t_facts, .int t_size, .int t_clauses, .int t_next, .int t_fault]), (a_t_signs, aI G 100 t_signs)]
theorem u_X4_number_X4_nextSign_57 {s : State} {args : Array Value} (hts : ∀ w ∈ WU, w.before args s = true) : CallW rm_X4_number s args RX4 RX4 57 yX4_nextSign cX4_nextSign 1 (some .int) (kw_X4_nextSign :: WU) rm_X4_nextSign 0 0 0 := cwV 0 hts (gV qm_4_57 qi_X4_nextSign ql_X4_nextSign qn_4 qc_X4_nextSign) rfl rfl rfl (by decide +kernel) ⟨Nat.le_of_ble_eq_true rfl, Nat.le_of_ble_eq_true rfl⟩
section
variable {p : Program} {l : Launch} {e : Env} {s : State} {m : MethodId} {args : Array Value} {below : List Frame} {meth : Method} {c : Code} {A : Nat → Prop} {G : GE} {a_t a_t_signs a_t_facts : Nat} {r : Int32} {z_t_next : Int32} {z_t_fault : Int32}
set_option maxRecDepth 100000 in
set_option maxHeartbeats 4000000 in
theorem k_X4_number_108 (C : Cx p s m args meth c cX4_number (some .int) 7 RX4 G A) (t_size : Int32) (t_clauses : Int32) (t_next : Int32) (t_fault : Int32) (t_signs : Nat → Int32) (x5 : Int32) {H : Heap} {locs : List Loc} {ls : Array Slot} (hf : b_X4_number_108 x5 t_next = some (r, z_t_next, z_t_fault)) (S : St G A s.heap H locs (w_X4_number G a_t a_t_signs a_t_facts t_size t_clauses t_next t_fault t_signs)) (hl : lv_has ls 7 [(0, .ref a_t), (5, .int x5)]) : W p l e rm_X4_number s m args below meth c H locs 0 0 (QI G below args s A r (w_X4_number G a_t a_t_signs a_t_facts t_size t_clauses z_t_next z_t_fault t_signs)) (F0 m 108 ls []) := by
  unfold b_X4_number_108 at hf
  have hx := C.1
  have hb := C.2.1
  have hown := C.2.2.2.2.1
  have hts := C.2.2.2.2.2.1
  have hN := C.2.2.2.2.2.2.2.2.2.2
  refine lv_aload_n (pc := 108) hx hb dX4_number_108 rfl (lv_at hl 0 rfl) ?_
  refine lv_aload_n (pc := 109) hx hb dX4_number_109 rfl (lv_at hl 0 rfl) ?_
  refine x_get (pc := 110) (ci := 4) (T := TX4) (v := .int t_next) C S 0 rfl rfl inlX4 4 (by decide) rfl qf_4_22 rfl dX4_number_110 ?_
  refine lv_iconst (pc := 113) hx hb dX4_number_113 ic_1 ?_
  refine lv_isub (pc := 114) hx hb dX4_number_114 ?_
  refine x_put (pc := 115) (ci := 4) (T := TX4) (ws' := (w_X4_number G a_t a_t_signs a_t_facts t_size t_clauses t_next (t_next - (1 : Int32)) t_signs)) C S tyX4 tyX4_ok nmX4 0 rfl rfl inlX4 5 (by decide) rfl qf_4_25 rfl rfl rfl rfl (Nat.le_of_ble_eq_true rfl) rfl dX4_number_115 (fun H locs S => ?_)
  refine lv_iload (pc := 118) hx hb dX4_number_118 (lv_at hl 1 rfl) ?_
  cases hf
  exact x_iret (pc := 120) C S dX4_number_120
set_option maxRecDepth 100000 in
set_option maxHeartbeats 4000000 in
theorem k_X4_number_76 (C : Cx p s m args meth c cX4_number (some .int) 7 RX4 G A) (t_size : Int32) (t_clauses : Int32) (t_next : Int32) (t_fault : Int32) (t_signs : Nat → Int32) (x2 : Int32) (x3 : Int32) (x4 : Int32) (x5 : Int32) {H : Heap} {locs : List Loc} {ls : Array Slot} (hf : b_X4_number_76 x2 x3 x4 x5 t_next t_fault = some (r, z_t_next, z_t_fault)) (S : St G A s.heap H locs (w_X4_number G a_t a_t_signs a_t_facts t_size t_clauses t_next t_fault t_signs)) (hl : lv_has ls 7 [(0, .ref a_t), (2, .int x2), (3, .int x3), (4, .int x4), (5, .int x5)]) : W p l e rm_X4_number s m args below meth c H locs 0 0 (QI G below args s A r (w_X4_number G a_t a_t_signs a_t_facts t_size t_clauses z_t_next z_t_fault t_signs)) (F0 m 76 ls []) := by
  unfold b_X4_number_76 at hf
  have hx := C.1
  have hb := C.2.1
  have hown := C.2.2.2.2.1
  have hts := C.2.2.2.2.2.1
  have hN := C.2.2.2.2.2.2.2.2.2.2
  refine lv_aload_n (pc := 76) hx hb dX4_number_76 rfl (lv_at hl 0 rfl) ?_
  refine x_get (pc := 77) (ci := 4) (T := TX4) (v := .int t_next) C S 0 rfl rfl inlX4 4 (by decide) rfl qf_4_22 rfl dX4_number_77 ?_
  refine lv_iload (pc := 80) hx hb dX4_number_80 (lv_at hl 3 rfl) ?_
  refine lv_icmp_ne (tgt := 96) (pc := 82) hx hb dX4_number_82 (by decide) (fun c1 => ?_) (fun c1 => ?_)
  · have hf := ifn c1 hf
    refine lv_iload (pc := 96) hx hb dX4_number_96 (lv_at hl 4 rfl) ?_
    refine lv_iload_n (pc := 98) hx hb dX4_number_98 rfl (lv_at hl 1 rfl) ?_
    refine lv_icmp_lt (tgt := 108) (pc := 99) hx hb dX4_number_99 (by decide) (fun c2 => ?_) (fun c2 => ?_)
    · have hf := ifp c2 hf
      exact k_X4_number_108 C (t_size) (t_clauses) (t_next) (t_fault) (t_signs) (x5) hf S (lv_sub hl [0, 4] rfl)
    · have hf := ifn c2 hf
      refine lv_iload (pc := 102) hx hb dX4_number_102 (lv_at hl 4 rfl) ?_
      refine lv_iload_n (pc := 104) hx hb dX4_number_104 rfl (lv_at hl 2 rfl) ?_
      refine lv_icmp_le (tgt := 118) (pc := 105) hx hb dX4_number_105 (by decide) (fun c3 => ?_) (fun c3 => ?_)
      · have hf := ifp c3 hf
        refine lv_iload (pc := 118) hx hb dX4_number_118 (lv_at hl 4 rfl) ?_
        cases hf
        exact x_iret (pc := 120) C S dX4_number_120
      · have hf := ifn c3 hf
        exact k_X4_number_108 C (t_size) (t_clauses) (t_next) (t_fault) (t_signs) (x5) hf S (lv_sub hl [0, 4] rfl)
  · have hf := ifp c1 hf
    refine lv_aload_n (pc := 85) hx hb dX4_number_85 rfl (lv_at hl 0 rfl) ?_
    refine lv_aload_n (pc := 86) hx hb dX4_number_86 rfl (lv_at hl 0 rfl) ?_
    refine x_get (pc := 87) (ci := 4) (T := TX4) (v := .int t_next) C S 0 rfl rfl inlX4 4 (by decide) rfl qf_4_22 rfl dX4_number_87 ?_
    refine x_put (pc := 90) (ci := 4) (T := TX4) (ws' := (w_X4_number G a_t a_t_signs a_t_facts t_size t_clauses t_next t_next t_signs)) C S tyX4 tyX4_ok nmX4 0 rfl rfl inlX4 5 (by decide) rfl qf_4_25 rfl rfl rfl rfl (Nat.le_of_ble_eq_true rfl) rfl dX4_number_90 (fun H locs S => ?_)
    refine lv_goto (tgt := 118) (pc := 93) hx hb dX4_number_93 (by decide) ?_
    refine lv_iload (pc := 118) hx hb dX4_number_118 (lv_at hl 4 rfl) ?_
    cases hf
    exact x_iret (pc := 120) C S dX4_number_120
set_option maxRecDepth 100000 in
set_option maxHeartbeats 4000000 in
theorem k_X4_number_21 (C : Cx p s m args meth c cX4_number (some .int) 7 RX4 G A) (t_size : Int32) (t_clauses : Int32) (t_next : Int32) (t_fault : Int32) (t_signs : Nat → Int32) (x1 : Int32) (x2 : Int32) (x3 : Int32) (x4 : Int32) (x5 : Int32) (x6 : Int32) (k21 : Int32 × Int32 × Int32 → Option (Int32 × Int32 × Int32)) (hk21 : ∀ {H : Heap} {locs : List Loc} {ls : Array Slot} (x5' : Int32) (x6' : Int32) (t_next' : Int32), k21 (x5', x6', t_next') = some (r, z_t_next, z_t_fault) → St G A s.heap H locs (w_X4_number G a_t a_t_signs a_t_facts t_size t_clauses t_next' t_fault t_signs) → lv_has ls 7 [(0, .ref a_t), (1, .int x1), (2, .int x2), (3, .int x3), (4, .int x4), (5, .int x5'), (6, .int x6')] → W p l e rm_X4_number s m args below meth c H locs 0 0 (QI G below args s A r (w_X4_number G a_t a_t_signs a_t_facts t_size t_clauses z_t_next z_t_fault t_signs)) (F0 m 21 ls [])) {H : Heap} {locs : List Loc} {ls : Array Slot} (hf : b_X4_number_21 x1 x2 x3 x4 t_signs t_size t_fault k21 x5 x6 t_next = some (r, z_t_next, z_t_fault)) (S : St G A s.heap H locs (w_X4_number G a_t a_t_signs a_t_facts t_size t_clauses t_next t_fault t_signs)) (hl : lv_has ls 7 [(0, .ref a_t), (1, .int x1), (2, .int x2), (3, .int x3), (4, .int x4), (5, .int x5), (6, .int x6)]) : W p l e rm_X4_number s m args below meth c H locs 0 0 (QI G below args s A r (w_X4_number G a_t a_t_signs a_t_facts t_size t_clauses z_t_next z_t_fault t_signs)) (F0 m 21 ls []) := by
  unfold b_X4_number_21 at hf
  have hx := C.1
  have hb := C.2.1
  have hown := C.2.2.2.2.1
  have hts := C.2.2.2.2.2.1
  have hN := C.2.2.2.2.2.2.2.2.2.2
  refine lv_iload (pc := 21) hx hb dX4_number_21 (lv_at hl 6 rfl) ?_
  refine lv_iload_n (pc := 23) hx hb dX4_number_23 rfl (lv_at hl 1 rfl) ?_
  refine lv_icmp_ge (tgt := 76) (pc := 24) hx hb dX4_number_24 (by decide) (fun c1 => ?_) (fun c1 => ?_)
  · have hf := ifp c1 hf
    exact k_X4_number_76 C (t_size) (t_clauses) (t_next) (t_fault) (t_signs) (x2) (x3) (x4) (x5) hf S (lv_sub hl [0, 2, 3, 4, 5] rfl)
  · have hf := ifn c1 hf
    refine lv_aload_n (pc := 27) hx hb dX4_number_27 rfl (lv_at hl 0 rfl) ?_
    obtain ⟨r2, hq2, hf⟩ := bd_e hf
    refine x_vI (pc := 28) (As := []) (rest := []) (isC := [0, 1]) (ws' := (w_X4_number G a_t a_t_signs a_t_facts t_size t_clauses t_next t_fault t_signs)) C S (c_X4_nextSign l G a_t a_t_signs a_t_facts t_size t_clauses t_next t_fault t_signs r2 hq2) (u_X4_number_X4_nextSign_57 hts) (ci := 4) rfl 0 rfl rfl rfl rfl rfl rfl hl.1 rfl (Nat.le_of_ble_eq_true rfl) dX4_number_28 (fun H locs S => ?_)
    refine lv_bipush (pc := 31) hx hb dX4_number_31 bc_48 ?_
    refine lv_icmp_lt (tgt := 76) (pc := 33) hx hb dX4_number_33 (by decide) (fun c3 => ?_) (fun c3 => ?_)
    · have hf := ifp c3 hf
      exact k_X4_number_76 C (t_size) (t_clauses) (t_next) (t_fault) (t_signs) (x2) (x3) (x4) (x5) hf S (lv_sub hl [0, 2, 3, 4, 5] rfl)
    · have hf := ifn c3 hf
      refine lv_aload_n (pc := 36) hx hb dX4_number_36 rfl (lv_at hl 0 rfl) ?_
      obtain ⟨r4, hq4, hf⟩ := bd_e hf
      refine x_vI (pc := 37) (As := []) (rest := []) (isC := [0, 1]) (ws' := (w_X4_number G a_t a_t_signs a_t_facts t_size t_clauses t_next t_fault t_signs)) C S (c_X4_nextSign l G a_t a_t_signs a_t_facts t_size t_clauses t_next t_fault t_signs r4 hq4) (u_X4_number_X4_nextSign_57 hts) (ci := 4) rfl 0 rfl rfl rfl rfl rfl rfl hl.1 rfl (Nat.le_of_ble_eq_true rfl) dX4_number_37 (fun H locs S => ?_)
      refine lv_bipush (pc := 40) hx hb dX4_number_40 bc_57 ?_
      refine lv_icmp_gt (tgt := 76) (pc := 42) hx hb dX4_number_42 (by decide) (fun c5 => ?_) (fun c5 => ?_)
      · have hf := ifp c5 hf
        exact k_X4_number_76 C (t_size) (t_clauses) (t_next) (t_fault) (t_signs) (x2) (x3) (x4) (x5) hf S (lv_sub hl [0, 2, 3, 4, 5] rfl)
      · have hf := ifn c5 hf
        refine lv_iload (pc := 45) hx hb dX4_number_45 (lv_at hl 5 rfl) ?_
        refine lv_bipush (pc := 47) hx hb dX4_number_47 bc_10 ?_
        refine lv_imul (pc := 49) hx hb dX4_number_49 ?_
        refine lv_aload_n (pc := 50) hx hb dX4_number_50 rfl (lv_at hl 0 rfl) ?_
        obtain ⟨r6, hq6, hf⟩ := bd_e hf
        refine x_vI (pc := 51) (As := []) (rest := [.int (x5 * (10 : Int32))]) (isC := [0, 1]) (ws' := (w_X4_number G a_t a_t_signs a_t_facts t_size t_clauses t_next t_fault t_signs)) C S (c_X4_nextSign l G a_t a_t_signs a_t_facts t_size t_clauses t_next t_fault t_signs r6 hq6) (u_X4_number_X4_nextSign_57 hts) (ci := 4) rfl 0 rfl rfl rfl rfl rfl rfl hl.1 rfl (Nat.le_of_ble_eq_true rfl) dX4_number_51 (fun H locs S => ?_)
        refine lv_iadd (pc := 54) hx hb dX4_number_54 ?_
        refine lv_bipush (pc := 55) hx hb dX4_number_55 bc_48 ?_
        refine lv_isub (pc := 57) hx hb dX4_number_57 ?_
        refine lv_istore (pc := 58) (lv' := [(5, .int (((x5 * (10 : Int32)) + r6) - (48 : Int32))), (0, .ref a_t), (1, .int x1), (2, .int x2), (3, .int x3), (4, .int x4), (6, .int x6)]) hx hb dX4_number_58 hl (by decide) rfl (fun ls hl => ?_)
        refine lv_aload_n (pc := 60) hx hb dX4_number_60 rfl (lv_at hl 1 rfl) ?_
        refine lv_dup (pc := 61) hx hb dX4_number_61 rfl ?_
        refine x_get (pc := 62) (ci := 4) (T := TX4) (v := .int t_next) C S 0 rfl rfl inlX4 4 (by decide) rfl qf_4_22 rfl dX4_number_62 ?_
        refine lv_iconst (pc := 65) hx hb dX4_number_65 ic_1 ?_
        refine lv_iadd (pc := 66) hx hb dX4_number_66 ?_
        refine x_put (pc := 67) (ci := 4) (T := TX4) (ws' := (w_X4_number G a_t a_t_signs a_t_facts t_size t_clauses (t_next + (1 : Int32)) t_fault t_signs)) C S tyX4 tyX4_ok nmX4 0 rfl rfl inlX4 4 (by decide) rfl qf_4_22 rfl rfl rfl rfl (Nat.le_of_ble_eq_true rfl) rfl dX4_number_67 (fun H locs S => ?_)
        refine lv_iinc (pc := 70) (v := (x6 + (1 : Int32))) (lv' := [(6, .int (x6 + (1 : Int32))), (5, .int (((x5 * (10 : Int32)) + r6) - (48 : Int32))), (0, .ref a_t), (1, .int x1), (2, .int x2), (3, .int x3), (4, .int x4)]) hx hb dX4_number_70 hl (k := 6) rfl (congrArg (fun z => x6 + z) ic_1) (by decide) rfl (fun ls hl => ?_)
        refine lv_goto (tgt := 21) (pc := 73) hx hb dX4_number_73 (by decide) ?_
        exact hk21 ((((x5 * (10 : Int32)) + r6) - (48 : Int32))) ((x6 + (1 : Int32))) ((t_next + (1 : Int32)))  hf S (lv_sub hl [2, 3, 4, 5, 6, 1, 0] rfl)
set_option maxRecDepth 100000 in
set_option maxHeartbeats 4000000 in
theorem h_X4_number_21 (C : Cx p s m args meth c cX4_number (some .int) 7 RX4 G A) (t_size : Int32) (t_clauses : Int32) (t_fault : Int32) (t_signs : Nat → Int32) (x1 : Int32) (x2 : Int32) (x3 : Int32) (x4 : Int32) (n : Nat) (x : Int32 × Int32 × Int32) (hf : lp (fun k x => b_X4_number_21 x1 x2 x3 x4 t_signs t_size t_fault k x.1 x.2.1 x.2.2) n x = some (r, z_t_next, z_t_fault)) {H : Heap} {locs : List Loc} {ls : Array Slot} (S : St G A s.heap H locs (w_X4_number G a_t a_t_signs a_t_facts t_size t_clauses x.2.2 t_fault t_signs)) (hl : lv_has ls 7 [(0, .ref a_t), (1, .int x1), (2, .int x2), (3, .int x3), (4, .int x4), (5, .int x.1), (6, .int x.2.1)]) : W p l e rm_X4_number s m args below meth c H locs 0 0 (QI G below args s A r (w_X4_number G a_t a_t_signs a_t_facts t_size t_clauses z_t_next z_t_fault t_signs)) (F0 m 21 ls []) :=
  lp_ind (P := fun x => ∀ {H : Heap} {locs : List Loc} {ls : Array Slot}, St G A s.heap H locs (w_X4_number G a_t a_t_signs a_t_facts t_size t_clauses x.2.2 t_fault t_signs) → lv_has ls 7 [(0, .ref a_t), (1, .int x1), (2, .int x2), (3, .int x3), (4, .int x4), (5, .int x.1), (6, .int x.2.1)] → W p l e rm_X4_number s m args below meth c H locs 0 0 (QI G below args s A r (w_X4_number G a_t a_t_signs a_t_facts t_size t_clauses z_t_next z_t_fault t_signs)) (F0 m 21 ls [])) (fun k hk x hf _ _ _ S hl => k_X4_number_21 C t_size t_clauses x.2.2 t_fault t_signs x1 x2 x3 x4 x.1 x.2.1  k (fun x5' x6' t_next'  h S hl => hk (x5', x6', t_next') h S hl) hf S hl) n x hf S hl
set_option maxRecDepth 100000 in
set_option maxHeartbeats 4000000 in
theorem c_X4_number (l : Launch) (G : GE) (a_t a_t_signs a_t_facts : Nat) (t_size : Int32) (t_clauses : Int32) (t_next : Int32) (t_fault : Int32) (t_signs : Nat → Int32) (x1 : Int32) (x2 : Int32) (x3 : Int32) (r : Int32) (z_t_next : Int32) (z_t_fault : Int32) (hf : f_X4_number t_signs t_size t_next t_fault x1 x2 x3 = some (r, z_t_next, z_t_fault)) : CI l G yX4_number kw_X4_number rm_X4_number [.ref a_t, .int x1, .int x2, .int x3] (w_X4_number G a_t a_t_signs a_t_facts t_size t_clauses t_next t_fault t_signs) r (w_X4_number G a_t a_t_signs a_t_facts t_size t_clauses z_t_next z_t_fault t_signs) := by
  refine en_I (cc := cX4_number) (maxL := 7) (ret := (some .int)) (by decide +kernel) (Nat.le_of_ble_eq_true rfl) ?_
  intro p e s m args below meth c A ls C S hl
  have hl : lv_has ls 7 [(0, .ref a_t), (1, .int x1), (2, .int x2), (3, .int x3)] := hl
  have C : Cx p s m args meth c cX4_number (some .int) 7 RX4 G A := C
  unfold f_X4_number at hf
  have hx := C.1
  have hb := C.2.1
  have hown := C.2.2.2.2.1
  have hts := C.2.2.2.2.2.1
  have hN := C.2.2.2.2.2.2.2.2.2.2
  refine lv_aload_n (pc := 0) hx hb dX4_number_0 rfl (lv_at hl 0 rfl) ?_
  refine x_get (pc := 1) (ci := 4) (T := TX4) (v := .int t_fault) C S 0 rfl rfl inlX4 5 (by decide) rfl qf_4_25 rfl dX4_number_1 ?_
  refine lv_if_lt (tgt := 9) (pc := 4) hx hb dX4_number_4 (by decide) (fun c1 => ?_) (fun c1 => ?_)
  · have hf := ifp c1 hf
    refine lv_aload_n (pc := 9) hx hb dX4_number_9 rfl (lv_at hl 0 rfl) ?_
    refine x_get (pc := 10) (ci := 4) (T := TX4) (v := .int t_next) C S 0 rfl rfl inlX4 4 (by decide) rfl qf_4_22 rfl dX4_number_10 ?_
    refine lv_istore (pc := 13) (lv' := [(4, .int t_next), (0, .ref a_t), (1, .int x1), (2, .int x2), (3, .int x3)]) hx hb dX4_number_13 hl (by decide) rfl (fun ls hl => ?_)
    refine lv_iconst (pc := 15) hx hb dX4_number_15 ic_0 ?_
    refine lv_istore (pc := 16) (lv' := [(5, .int (0 : Int32)), (4, .int t_next), (0, .ref a_t), (1, .int x1), (2, .int x2), (3, .int x3)]) hx hb dX4_number_16 hl (by decide) rfl (fun ls hl => ?_)
    refine lv_iconst (pc := 18) hx hb dX4_number_18 ic_0 ?_
    refine lv_istore (pc := 19) (lv' := [(6, .int (0 : Int32)), (5, .int (0 : Int32)), (4, .int t_next), (0, .ref a_t), (1, .int x1), (2, .int x2), (3, .int x3)]) hx hb dX4_number_19 hl (by decide) rfl (fun ls hl => ?_)
    exact h_X4_number_21 C (t_size) (t_clauses) (t_fault) (t_signs) (x1) (x2) (x3) (t_next) fu ((0 : Int32), (0 : Int32), t_next) hf S (lv_sub hl [3, 4, 5, 6, 2, 1, 0] rfl)
  · have hf := ifn c1 hf
    refine lv_iconst (pc := 7) hx hb dX4_number_7 ic_0 ?_
    cases hf
    exact x_iret (pc := 8) C S dX4_number_8
end
abbrev rm_X5_become : Room := { frames := 0, cells := 0, slots := 0, locals := 0 }
abbrev kw_X5_become : Cond := .code yX5_become cX5_become 5 none
abbrev w_X5_become (G : GE) (a_t a_t_sorts a_t_sizes a_t_items : Nat) (t_sorts : Nat → Int32) (t_sizes : Nat → Int32) (t_items : Nat → Int64) : va_W := [(a_t, ob 5 [.ref a_t_sorts, .ref a_t_sizes, .ref a_t_items]), (a_t_sorts, aI G 6 t_sorts), (a_t_sizes, aI G 6 t_sizes), (a_t_items, aJ G 360 t_items)]
section
variable {p : Program} {l : Launch} {e : Env} {s : State} {m : MethodId} {args : Array Value} {below : List Frame} {meth : Method} {c : Code} {A : Nat → Prop} {G : GE} {a_t a_t_sorts a_t_sizes a_t_items : Nat} {z_t_sorts : Nat → Int32} {z_t_sizes : Nat → Int32} {z_t_items : Nat → Int64}
set_option maxRecDepth 100000 in
set_option maxHeartbeats 4000000 in
theorem k_X5_become_38 (C : Cx p s m args meth c cX5_become none 5 RX5 G A) (t_sorts : Nat → Int32) (t_sizes : Nat → Int32) (t_items : Nat → Int64) (x1 : Int32) (x4 : Int32) (k38 : Int32 × (Nat → Int64) → Option ((Nat → Int32) × (Nat → Int32) × (Nat → Int64))) (hk38 : ∀ {H : Heap} {locs : List Loc} {ls : Array Slot} (x4' : Int32) (t_items' : Nat → Int64), k38 (x4', t_items') = some (z_t_sorts, z_t_sizes, z_t_items) → St G A s.heap H locs (w_X5_become G a_t a_t_sorts a_t_sizes a_t_items t_sorts t_sizes t_items') → lv_has ls 5 [(0, .ref a_t), (1, .int x1), (4, .int x4')] → W p l e rm_X5_become s m args below meth c H locs 0 0 (QV G below args s A (w_X5_become G a_t a_t_sorts a_t_sizes a_t_items z_t_sorts z_t_sizes z_t_items)) (F0 m 38 ls [])) {H : Heap} {locs : List Loc} {ls : Array Slot} (hf : b_X5_become_38 x1 t_sorts t_sizes k38 x4 t_items = some (z_t_sorts, z_t_sizes, z_t_items)) (S : St G A s.heap H locs (w_X5_become G a_t a_t_sorts a_t_sizes a_t_items t_sorts t_sizes t_items)) (hl : lv_has ls 5 [(0, .ref a_t), (1, .int x1), (4, .int x4)]) : W p l e rm_X5_become s m args below meth c H locs 0 0 (QV G below args s A (w_X5_become G a_t a_t_sorts a_t_sizes a_t_items z_t_sorts z_t_sizes z_t_items)) (F0 m 38 ls []) := by
  unfold b_X5_become_38 at hf
  have hx := C.1
  have hb := C.2.1
  have hown := C.2.2.2.2.1
  have hts := C.2.2.2.2.2.1
  have hN := C.2.2.2.2.2.2.2.2.2.2
  refine lv_iload (pc := 38) hx hb dX5_become_38 (lv_at hl 2 rfl) ?_
  refine lv_bipush (pc := 40) hx hb dX5_become_40 bc_60 ?_
  refine lv_icmp_ge (tgt := 64) (pc := 42) hx hb dX5_become_42 (by decide) (fun c1 => ?_) (fun c1 => ?_)
  · have hf := ifp c1 hf
    cases hf
    exact x_vret (pc := 64) C S dX5_become_64
  · have hf := ifn c1 hf
    refine lv_aload_n (pc := 45) hx hb dX5_become_45 rfl (lv_at hl 0 rfl) ?_
    refine x_get (pc := 46) (ci := 5) (T := TX5) (v := .ref a_t_items) C S 0 rfl rfl inlX5 2 (by decide) rfl qf_5_18 rfl dX5_become_46 ?_
    refine lv_iload_n (pc := 49) hx hb dX5_become_49 rfl (lv_at hl 1 rfl) ?_
    refine lv_bipush (pc := 50) hx hb dX5_become_50 bc_60 ?_
    refine lv_imul (pc := 52) hx hb dX5_become_52 ?_
    refine lv_iload (pc := 53) hx hb dX5_become_53 (lv_at hl 2 rfl) ?_
    refine lv_iadd (pc := 55) hx hb dX5_become_55 ?_
    refine lv_lconst (pc := 56) hx hb dX5_become_56 lc_0 ?_
    obtain ⟨hv2, hf⟩ := gI_e hf
    refine x_last (pc := 57) (ws' := (w_X5_become G a_t a_t_sorts a_t_sizes a_t_items t_sorts t_sizes (vp_updL t_items ((x1 * (60 : Int32)) + x4).toNatClampNeg (0 : Int64)))) C S 3 rfl hv2 rfl dX5_become_57 (fun H locs S => ?_)
    refine lv_iinc (pc := 58) (v := (x4 + (1 : Int32))) (lv' := [(4, .int (x4 + (1 : Int32))), (0, .ref a_t), (1, .int x1)]) hx hb dX5_become_58 hl (k := 2) rfl (congrArg (fun z => x4 + z) ic_1) (by decide) rfl (fun ls hl => ?_)
    refine lv_goto (tgt := 38) (pc := 61) hx hb dX5_become_61 (by decide) ?_
    exact hk38 ((x4 + (1 : Int32))) ((vp_updL t_items ((x1 * (60 : Int32)) + x4).toNatClampNeg (0 : Int64)))  hf S (lv_sub hl [1, 2, 0] rfl)
set_option maxRecDepth 100000 in
set_option maxHeartbeats 4000000 in
theorem h_X5_become_38 (C : Cx p s m args meth c cX5_become none 5 RX5 G A) (t_sorts : Nat → Int32) (t_sizes : Nat → Int32) (x1 : Int32) (n : Nat) (x : Int32 × (Nat → Int64)) (hf : lp (fun k x => b_X5_become_38 x1 t_sorts t_sizes k x.1 x.2) n x = some (z_t_sorts, z_t_sizes, z_t_items)) {H : Heap} {locs : List Loc} {ls : Array Slot} (S : St G A s.heap H locs (w_X5_become G a_t a_t_sorts a_t_sizes a_t_items t_sorts t_sizes x.2)) (hl : lv_has ls 5 [(0, .ref a_t), (1, .int x1), (4, .int x.1)]) : W p l e rm_X5_become s m args below meth c H locs 0 0 (QV G below args s A (w_X5_become G a_t a_t_sorts a_t_sizes a_t_items z_t_sorts z_t_sizes z_t_items)) (F0 m 38 ls []) :=
  lp_ind (P := fun x => ∀ {H : Heap} {locs : List Loc} {ls : Array Slot}, St G A s.heap H locs (w_X5_become G a_t a_t_sorts a_t_sizes a_t_items t_sorts t_sizes x.2) → lv_has ls 5 [(0, .ref a_t), (1, .int x1), (4, .int x.1)] → W p l e rm_X5_become s m args below meth c H locs 0 0 (QV G below args s A (w_X5_become G a_t a_t_sorts a_t_sizes a_t_items z_t_sorts z_t_sizes z_t_items)) (F0 m 38 ls [])) (fun k hk x hf _ _ _ S hl => k_X5_become_38 C t_sorts t_sizes x.2 x1 x.1  k (fun x4' t_items'  h S hl => hk (x4', t_items') h S hl) hf S hl) n x hf S hl
set_option maxRecDepth 100000 in
set_option maxHeartbeats 4000000 in
theorem c_X5_become (l : Launch) (G : GE) (a_t a_t_sorts a_t_sizes a_t_items : Nat) (t_sorts : Nat → Int32) (t_sizes : Nat → Int32) (t_items : Nat → Int64) (x1 : Int32) (x2 : Int32) (x3 : Int32) (z_t_sorts : Nat → Int32) (z_t_sizes : Nat → Int32) (z_t_items : Nat → Int64) (hf : f_X5_become t_sorts t_sizes t_items x1 x2 x3 = some (z_t_sorts, z_t_sizes, z_t_items)) : CV l G yX5_become kw_X5_become rm_X5_become [.ref a_t, .int x1, .int x2, .int x3] (w_X5_become G a_t a_t_sorts a_t_sizes a_t_items t_sorts t_sizes t_items) (w_X5_become G a_t a_t_sorts a_t_sizes a_t_items z_t_sorts z_t_sizes z_t_items) := by
  refine en_V (cc := cX5_become) (maxL := 5) (ret := none) (by decide +kernel) (Nat.le_of_ble_eq_true rfl) ?_
  intro p e s m args below meth c A ls C S hl
  have hl : lv_has ls 5 [(0, .ref a_t), (1, .int x1), (2, .int x2), (3, .int x3)] := hl
  have C : Cx p s m args meth c cX5_become none 5 RX5 G A := C
  unfold f_X5_become at hf
  have hx := C.1
  have hb := C.2.1
  have hown := C.2.2.2.2.1
  have hts := C.2.2.2.2.2.1
  have hN := C.2.2.2.2.2.2.2.2.2.2
  refine lv_iload_n (pc := 0) hx hb dX5_become_0 rfl (lv_at hl 1 rfl) ?_
  refine lv_if_lt (tgt := 20) (pc := 1) hx hb dX5_become_1 (by decide) (fun c1 => ?_) (fun c1 => ?_)
  · have hf := ifp c1 hf
    cases hf
    exact x_vret (pc := 20) C S dX5_become_20
  · have hf := ifn c1 hf
    refine lv_iload_n (pc := 4) hx hb dX5_become_4 rfl (lv_at hl 1 rfl) ?_
    refine lv_bipush (pc := 5) hx hb dX5_become_5 bc_6 ?_
    refine lv_icmp_ge (tgt := 20) (pc := 7) hx hb dX5_become_7 (by decide) (fun c2 => ?_) (fun c2 => ?_)
    · have hf := ifp c2 hf
      cases hf
      exact x_vret (pc := 20) C S dX5_become_20
    · have hf := ifn c2 hf
      refine lv_iload_n (pc := 10) hx hb dX5_become_10 rfl (lv_at hl 3 rfl) ?_
      refine lv_if_lt (tgt := 20) (pc := 11) hx hb dX5_become_11 (by decide) (fun c3 => ?_) (fun c3 => ?_)
      · have hf := ifp c3 hf
        cases hf
        exact x_vret (pc := 20) C S dX5_become_20
      · have hf := ifn c3 hf
        refine lv_iload_n (pc := 14) hx hb dX5_become_14 rfl (lv_at hl 3 rfl) ?_
        refine lv_bipush (pc := 15) hx hb dX5_become_15 bc_60 ?_
        refine lv_icmp_le (tgt := 21) (pc := 17) hx hb dX5_become_17 (by decide) (fun c4 => ?_) (fun c4 => ?_)
        · have hf := ifp c4 hf
          refine lv_aload_n (pc := 21) hx hb dX5_become_21 rfl (lv_at hl 0 rfl) ?_
          refine x_get (pc := 22) (ci := 5) (T := TX5) (v := .ref a_t_sorts) C S 0 rfl rfl inlX5 0 (by decide) rfl qf_5_9 rfl dX5_become_22 ?_
          refine lv_iload_n (pc := 25) hx hb dX5_become_25 rfl (lv_at hl 1 rfl) ?_
          refine lv_iload_n (pc := 26) hx hb dX5_become_26 rfl (lv_at hl 2 rfl) ?_
          obtain ⟨hv5, hf⟩ := gI_e hf
          refine x_iast (pc := 27) (ws' := (w_X5_become G a_t a_t_sorts a_t_sizes a_t_items (upd t_sorts x1.toNatClampNeg x2) t_sizes t_items)) C S 1 rfl hv5 rfl dX5_become_27 (fun H locs S => ?_)
          refine lv_aload_n (pc := 28) hx hb dX5_become_28 rfl (lv_at hl 0 rfl) ?_
          refine x_get (pc := 29) (ci := 5) (T := TX5) (v := .ref a_t_sizes) C S 0 rfl rfl inlX5 1 (by decide) rfl qf_5_15 rfl dX5_become_29 ?_
          refine lv_iload_n (pc := 32) hx hb dX5_become_32 rfl (lv_at hl 1 rfl) ?_
          refine lv_iload_n (pc := 33) hx hb dX5_become_33 rfl (lv_at hl 3 rfl) ?_
          refine x_iast (pc := 34) (ws' := (w_X5_become G a_t a_t_sorts a_t_sizes a_t_items (upd t_sorts x1.toNatClampNeg x2) (upd t_sizes x1.toNatClampNeg x3) t_items)) C S 2 rfl hv5 rfl dX5_become_34 (fun H locs S => ?_)
          refine lv_iconst (pc := 35) hx hb dX5_become_35 ic_0 ?_
          refine lv_istore (pc := 36) (lv' := [(4, .int (0 : Int32)), (0, .ref a_t), (1, .int x1), (2, .int x2), (3, .int x3)]) hx hb dX5_become_36 hl (by decide) rfl (fun ls hl => ?_)
          exact h_X5_become_38 C ((upd t_sorts x1.toNatClampNeg x2)) ((upd t_sizes x1.toNatClampNeg x3)) (x1) fu ((0 : Int32), t_items) hf S (lv_sub hl [1, 2, 0] rfl)
        · have hf := ifn c4 hf
          cases hf
          exact x_vret (pc := 20) C S dX5_become_20
end
abbrev rm_X5_hasPart : Room := { frames := 0, cells := 0, slots := 0, locals := 0 }
abbrev kw_X5_hasPart : Cond := .code yX5_hasPart cX5_hasPart 4 (some .boolean)
abbrev w_X5_hasPart (G : GE) (a_t a_t_sorts a_t_sizes a_t_items : Nat) (t_sizes : Nat → Int32) : va_W := [(a_t, ob 5 [.ref a_t_sorts, .ref a_t_sizes, .ref a_t_items]), (a_t_sizes, aI G 6 t_sizes)]
section
variable {p : Program} {l : Launch} {e : Env} {s : State} {m : MethodId} {args : Array Value} {below : List Frame} {meth : Method} {c : Code} {A : Nat → Prop} {G : GE} {a_t a_t_sorts a_t_sizes a_t_items : Nat} {r : Int32}
set_option maxRecDepth 100000 in
set_option maxHeartbeats 4000000 in
theorem c_X5_hasPart (l : Launch) (G : GE) (a_t a_t_sorts a_t_sizes a_t_items : Nat) (t_sizes : Nat → Int32) (x1 : Int32) (x2 : Int32) (x3 : Int32) (r : Int32) (hf : f_X5_hasPart t_sizes x1 x2 x3 = some r) : CI l G yX5_hasPart kw_X5_hasPart rm_X5_hasPart [.ref a_t, .int x1, .int x2, .int x3] (w_X5_hasPart G a_t a_t_sorts a_t_sizes a_t_items t_sizes) r (w_X5_hasPart G a_t a_t_sorts a_t_sizes a_t_items t_sizes) := by
  refine en_I (cc := cX5_hasPart) (maxL := 4) (ret := (some .boolean)) (by decide +kernel) (Nat.le_of_ble_eq_true rfl) ?_
  intro p e s m args below meth c A ls C S hl
  have hl : lv_has ls 4 [(0, .ref a_t), (1, .int x1), (2, .int x2), (3, .int x3)] := hl
  have C : Cx p s m args meth c cX5_hasPart (some .boolean) 4 RX5 G A := C
  unfold f_X5_hasPart at hf
  have hx := C.1
  have hb := C.2.1
  have hown := C.2.2.2.2.1
  have hts := C.2.2.2.2.2.1
  have hN := C.2.2.2.2.2.2.2.2.2.2
  refine lv_iload_n (pc := 0) hx hb dX5_hasPart_0 rfl (lv_at hl 1 rfl) ?_
  refine lv_if_lt (tgt := 44) (pc := 1) hx hb dX5_hasPart_1 (by decide) (fun c1 => ?_) (fun c1 => ?_)
  · have hf := ifp c1 hf
    refine lv_iconst (pc := 44) hx hb dX5_hasPart_44 ic_0 ?_
    cases hf
    exact x_zret (pc := 45) (by decide) C S dX5_hasPart_45
  · have hf := ifn c1 hf
    refine lv_iload_n (pc := 4) hx hb dX5_hasPart_4 rfl (lv_at hl 1 rfl) ?_
    refine lv_bipush (pc := 5) hx hb dX5_hasPart_5 bc_6 ?_
    refine lv_icmp_ge (tgt := 44) (pc := 7) hx hb dX5_hasPart_7 (by decide) (fun c2 => ?_) (fun c2 => ?_)
    · have hf := ifp c2 hf
      refine lv_iconst (pc := 44) hx hb dX5_hasPart_44 ic_0 ?_
      cases hf
      exact x_zret (pc := 45) (by decide) C S dX5_hasPart_45
    · have hf := ifn c2 hf
      refine lv_iload_n (pc := 10) hx hb dX5_hasPart_10 rfl (lv_at hl 2 rfl) ?_
      refine lv_if_lt (tgt := 44) (pc := 11) hx hb dX5_hasPart_11 (by decide) (fun c3 => ?_) (fun c3 => ?_)
      · have hf := ifp c3 hf
        refine lv_iconst (pc := 44) hx hb dX5_hasPart_44 ic_0 ?_
        cases hf
        exact x_zret (pc := 45) (by decide) C S dX5_hasPart_45
      · have hf := ifn c3 hf
        refine lv_iload_n (pc := 14) hx hb dX5_hasPart_14 rfl (lv_at hl 3 rfl) ?_
        refine lv_if_lt (tgt := 44) (pc := 15) hx hb dX5_hasPart_15 (by decide) (fun c4 => ?_) (fun c4 => ?_)
        · have hf := ifp c4 hf
          refine lv_iconst (pc := 44) hx hb dX5_hasPart_44 ic_0 ?_
          cases hf
          exact x_zret (pc := 45) (by decide) C S dX5_hasPart_45
        · have hf := ifn c4 hf
          refine lv_iload_n (pc := 18) hx hb dX5_hasPart_18 rfl (lv_at hl 3 rfl) ?_
          refine lv_aload_n (pc := 19) hx hb dX5_hasPart_19 rfl (lv_at hl 0 rfl) ?_
          refine x_get (pc := 20) (ci := 5) (T := TX5) (v := .ref a_t_sizes) C S 0 rfl rfl inlX5 1 (by decide) rfl qf_5_15 rfl dX5_hasPart_20 ?_
          refine lv_iload_n (pc := 23) hx hb dX5_hasPart_23 rfl (lv_at hl 1 rfl) ?_
          obtain ⟨hv5, hf⟩ := gI_e hf
          refine x_iald (pc := 24) C S 1 rfl hv5 dX5_hasPart_24 ?_
          refine lv_icmp_gt (tgt := 44) (pc := 25) hx hb dX5_hasPart_25 (by decide) (fun c6 => ?_) (fun c6 => ?_)
          · have hf := ifp c6 hf
            refine lv_iconst (pc := 44) hx hb dX5_hasPart_44 ic_0 ?_
            cases hf
            exact x_zret (pc := 45) (by decide) C S dX5_hasPart_45
          · have hf := ifn c6 hf
            refine lv_iload_n (pc := 28) hx hb dX5_hasPart_28 rfl (lv_at hl 2 rfl) ?_
            refine lv_aload_n (pc := 29) hx hb dX5_hasPart_29 rfl (lv_at hl 0 rfl) ?_
            refine x_get (pc := 30) (ci := 5) (T := TX5) (v := .ref a_t_sizes) C S 0 rfl rfl inlX5 1 (by decide) rfl qf_5_15 rfl dX5_hasPart_30 ?_
            refine lv_iload_n (pc := 33) hx hb dX5_hasPart_33 rfl (lv_at hl 1 rfl) ?_
            refine x_iald (pc := 34) C S 1 rfl hv5 dX5_hasPart_34 ?_
            refine lv_iload_n (pc := 35) hx hb dX5_hasPart_35 rfl (lv_at hl 3 rfl) ?_
            refine lv_isub (pc := 36) hx hb dX5_hasPart_36 ?_
            refine lv_icmp_gt (tgt := 44) (pc := 37) hx hb dX5_hasPart_37 (by decide) (fun c7 => ?_) (fun c7 => ?_)
            · have hf := ifp c7 hf
              refine lv_iconst (pc := 44) hx hb dX5_hasPart_44 ic_0 ?_
              cases hf
              exact x_zret (pc := 45) (by decide) C S dX5_hasPart_45
            · have hf := ifn c7 hf
              refine lv_iconst (pc := 40) hx hb dX5_hasPart_40 ic_1 ?_
              refine lv_goto (tgt := 45) (pc := 41) hx hb dX5_hasPart_41 (by decide) ?_
              cases hf
              exact x_zret (pc := 45) (by decide) C S dX5_hasPart_45
end
abbrev rm_X5_copyPart : Room := { frames := 1, cells := 0, slots := 0, locals := 64 }
abbrev kw_X5_copyPart : Cond := .code yX5_copyPart cX5_copyPart 6 none
abbrev w_X5_copyPart (G : GE) (a_t a_t_sorts a_t_sizes a_t_items : Nat) (t_sizes : Nat → Int32) (t_items : Nat → Int64) : va_W := [(a_t, ob 5 [.ref a_t_sorts, .ref a_t_sizes, .ref a_t_items]), (a_t_sizes, aI G 6 t_sizes), (a_t_items, aJ G 360 t_items)]
theorem u_X5_copyPart_X5_hasPart_34 {s : State} {args : Array Value} (hts : ∀ w ∈ WU, w.before args s = true) : CallW rm_X5_copyPart s args RX5 RX5 34 yX5_hasPart cX5_hasPart 4 (some .boolean) (kw_X5_hasPart :: WU) rm_X5_hasPart 0 0 3 := cwV 3 hts (gV qm_5_34 qi_X5_hasPart ql_X5_hasPart qn_5 qc_X5_hasPart) rfl rfl rfl (by decide +kernel) ⟨Nat.le_of_ble_eq_true rfl, Nat.le_of_ble_eq_true rfl⟩
section
variable {p : Program} {l : Launch} {e : Env} {s : State} {m : MethodId} {args : Array Value} {below : List Frame} {meth : Method} {c : Code} {A : Nat → Prop} {G : GE} {a_t a_t_sorts a_t_sizes a_t_items : Nat} {z_t_items : Nat → Int64}
set_option maxRecDepth 100000 in
set_option maxHeartbeats 4000000 in
theorem c_X5_copyPart (l : Launch) (G : GE) (a_t a_t_sorts a_t_sizes a_t_items : Nat) (t_sizes : Nat → Int32) (t_items : Nat → Int64) (x1 : Int32) (x2 : Int32) (x3 : Int32) (x4 : Int32) (x5 : Int32) (z_t_items : Nat → Int64) (hf : f_X5_copyPart t_sizes t_items x1 x2 x3 x4 x5 = some z_t_items) : CV l G yX5_copyPart kw_X5_copyPart rm_X5_copyPart [.ref a_t, .int x1, .int x2, .int x3, .int x4, .int x5] (w_X5_copyPart G a_t a_t_sorts a_t_sizes a_t_items t_sizes t_items) (w_X5_copyPart G a_t a_t_sorts a_t_sizes a_t_items t_sizes z_t_items) := by
  refine en_V (cc := cX5_copyPart) (maxL := 6) (ret := none) (by decide +kernel) (Nat.le_of_ble_eq_true rfl) ?_
  intro p e s m args below meth c A ls C S hl
  have hl : lv_has ls 6 [(0, .ref a_t), (1, .int x1), (2, .int x2), (3, .int x3), (4, .int x4), (5, .int x5)] := hl
  have C : Cx p s m args meth c cX5_copyPart none 6 RX5 G A := C
  unfold f_X5_copyPart at hf
  have hx := C.1
  have hb := C.2.1
  have hown := C.2.2.2.2.1
  have hts := C.2.2.2.2.2.1
  have hN := C.2.2.2.2.2.2.2.2.2.2
  refine lv_aload_n (pc := 0) hx hb dX5_copyPart_0 rfl (lv_at hl 0 rfl) ?_
  refine lv_iload_n (pc := 1) hx hb dX5_copyPart_1 rfl (lv_at hl 1 rfl) ?_
  refine lv_iload_n (pc := 2) hx hb dX5_copyPart_2 rfl (lv_at hl 2 rfl) ?_
  refine lv_iload (pc := 3) hx hb dX5_copyPart_3 (lv_at hl 5 rfl) ?_
  obtain ⟨r1, hq1, hf⟩ := bd_e hf
  refine x_vI (pc := 5) (As := [.int x1, .int x2, .int x5]) (rest := []) (isC := [0, 1]) (ws' := (w_X5_copyPart G a_t a_t_sorts a_t_sizes a_t_items t_sizes t_items)) C S (c_X5_hasPart l G a_t a_t_sorts a_t_sizes a_t_items t_sizes x1 x2 x5 r1 hq1) (u_X5_copyPart_X5_hasPart_34 hts) (ci := 5) rfl 0 rfl rfl rfl rfl rfl rfl hl.1 rfl (Nat.le_of_ble_eq_true rfl) dX5_copyPart_5 (fun H locs S => ?_)
  refine lv_if_eq (tgt := 49) (pc := 8) hx hb dX5_copyPart_8 (by decide) (fun c2 => ?_) (fun c2 => ?_)
  · have hf := ifp c2 hf
    cases hf
    exact x_vret (pc := 49) C S dX5_copyPart_49
  · have hf := ifn c2 hf
    refine lv_aload_n (pc := 11) hx hb dX5_copyPart_11 rfl (lv_at hl 0 rfl) ?_
    refine lv_iload_n (pc := 12) hx hb dX5_copyPart_12 rfl (lv_at hl 3 rfl) ?_
    refine lv_iload (pc := 13) hx hb dX5_copyPart_13 (lv_at hl 4 rfl) ?_
    refine lv_iload (pc := 15) hx hb dX5_copyPart_15 (lv_at hl 5 rfl) ?_
    obtain ⟨r3, hq3, hf⟩ := bd_e hf
    refine x_vI (pc := 17) (As := [.int x3, .int x4, .int x5]) (rest := []) (isC := [0, 1]) (ws' := (w_X5_copyPart G a_t a_t_sorts a_t_sizes a_t_items t_sizes t_items)) C S (c_X5_hasPart l G a_t a_t_sorts a_t_sizes a_t_items t_sizes x3 x4 x5 r3 hq3) (u_X5_copyPart_X5_hasPart_34 hts) (ci := 5) rfl 0 rfl rfl rfl rfl rfl rfl hl.1 rfl (Nat.le_of_ble_eq_true rfl) dX5_copyPart_17 (fun H locs S => ?_)
    refine lv_if_eq (tgt := 49) (pc := 20) hx hb dX5_copyPart_20 (by decide) (fun c4 => ?_) (fun c4 => ?_)
    · have hf := ifp c4 hf
      cases hf
      exact x_vret (pc := 49) C S dX5_copyPart_49
    · have hf := ifn c4 hf
      refine lv_aload_n (pc := 23) hx hb dX5_copyPart_23 rfl (lv_at hl 0 rfl) ?_
      refine x_get (pc := 24) (ci := 5) (T := TX5) (v := .ref a_t_items) C S 0 rfl rfl inlX5 2 (by decide) rfl qf_5_18 rfl dX5_copyPart_24 ?_
      refine lv_iload_n (pc := 27) hx hb dX5_copyPart_27 rfl (lv_at hl 1 rfl) ?_
      refine lv_bipush (pc := 28) hx hb dX5_copyPart_28 bc_60 ?_
      refine lv_imul (pc := 30) hx hb dX5_copyPart_30 ?_
      refine lv_iload_n (pc := 31) hx hb dX5_copyPart_31 rfl (lv_at hl 2 rfl) ?_
      refine lv_iadd (pc := 32) hx hb dX5_copyPart_32 ?_
      refine lv_aload_n (pc := 33) hx hb dX5_copyPart_33 rfl (lv_at hl 0 rfl) ?_
      refine x_get (pc := 34) (ci := 5) (T := TX5) (v := .ref a_t_items) C S 0 rfl rfl inlX5 2 (by decide) rfl qf_5_18 rfl dX5_copyPart_34 ?_
      refine lv_iload_n (pc := 37) hx hb dX5_copyPart_37 rfl (lv_at hl 3 rfl) ?_
      refine lv_bipush (pc := 38) hx hb dX5_copyPart_38 bc_60 ?_
      refine lv_imul (pc := 40) hx hb dX5_copyPart_40 ?_
      refine lv_iload (pc := 41) hx hb dX5_copyPart_41 (lv_at hl 4 rfl) ?_
      refine lv_iadd (pc := 43) hx hb dX5_copyPart_43 ?_
      refine lv_iload (pc := 44) hx hb dX5_copyPart_44 (lv_at hl 5 rfl) ?_
      obtain ⟨hz5, hf⟩ := gd_e hf
      refine x_cpyl (pc := 46) (ws' := (w_X5_copyPart G a_t a_t_sorts a_t_sizes a_t_items t_sizes (va_cpy t_items t_items ((x1 * (60 : Int32)) + x2).toNatClampNeg ((x3 * (60 : Int32)) + x4).toNatClampNeg x5.toNatClampNeg))) C S hl.1 qm_5_38 qv_copy qs_copy qn_System 2 rfl hz5 (Nat.le_of_ble_eq_true rfl) (by decide +kernel) rfl dX5_copyPart_46 (fun H locs S => ?_)
      cases hf
      exact x_vret (pc := 49) C S dX5_copyPart_49
end
abbrev rm_X5_hasItem : Room := { frames := 0, cells := 0, slots := 0, locals := 0 }
abbrev kw_X5_hasItem : Cond := .code yX5_hasItem cX5_hasItem 3 (some .boolean)
abbrev w_X5_hasItem (G : GE) (a_t a_t_sorts a_t_sizes a_t_items : Nat) (t_sizes : Nat → Int32) : va_W := [(a_t, ob 5 [.ref a_t_sorts, .ref a_t_sizes, .ref a_t_items]), (a_t_sizes, aI G 6 t_sizes)]
section
variable {p : Program} {l : Launch} {e : Env} {s : State} {m : MethodId} {args : Array Value} {below : List Frame} {meth : Method} {c : Code} {A : Nat → Prop} {G : GE} {a_t a_t_sorts a_t_sizes a_t_items : Nat} {r : Int32}
set_option maxRecDepth 100000 in
set_option maxHeartbeats 4000000 in
theorem c_X5_hasItem (l : Launch) (G : GE) (a_t a_t_sorts a_t_sizes a_t_items : Nat) (t_sizes : Nat → Int32) (x1 : Int32) (x2 : Int32) (r : Int32) (hf : f_X5_hasItem t_sizes x1 x2 = some r) : CI l G yX5_hasItem kw_X5_hasItem rm_X5_hasItem [.ref a_t, .int x1, .int x2] (w_X5_hasItem G a_t a_t_sorts a_t_sizes a_t_items t_sizes) r (w_X5_hasItem G a_t a_t_sorts a_t_sizes a_t_items t_sizes) := by
  refine en_I (cc := cX5_hasItem) (maxL := 3) (ret := (some .boolean)) (by decide +kernel) (Nat.le_of_ble_eq_true rfl) ?_
  intro p e s m args below meth c A ls C S hl
  have hl : lv_has ls 3 [(0, .ref a_t), (1, .int x1), (2, .int x2)] := hl
  have C : Cx p s m args meth c cX5_hasItem (some .boolean) 3 RX5 G A := C
  unfold f_X5_hasItem at hf
  have hx := C.1
  have hb := C.2.1
  have hown := C.2.2.2.2.1
  have hts := C.2.2.2.2.2.1
  have hN := C.2.2.2.2.2.2.2.2.2.2
  refine lv_iload_n (pc := 0) hx hb dX5_hasItem_0 rfl (lv_at hl 1 rfl) ?_
  refine lv_if_lt (tgt := 28) (pc := 1) hx hb dX5_hasItem_1 (by decide) (fun c1 => ?_) (fun c1 => ?_)
  · have hf := ifp c1 hf
    refine lv_iconst (pc := 28) hx hb dX5_hasItem_28 ic_0 ?_
    cases hf
    exact x_zret (pc := 29) (by decide) C S dX5_hasItem_29
  · have hf := ifn c1 hf
    refine lv_iload_n (pc := 4) hx hb dX5_hasItem_4 rfl (lv_at hl 1 rfl) ?_
    refine lv_bipush (pc := 5) hx hb dX5_hasItem_5 bc_6 ?_
    refine lv_icmp_ge (tgt := 28) (pc := 7) hx hb dX5_hasItem_7 (by decide) (fun c2 => ?_) (fun c2 => ?_)
    · have hf := ifp c2 hf
      refine lv_iconst (pc := 28) hx hb dX5_hasItem_28 ic_0 ?_
      cases hf
      exact x_zret (pc := 29) (by decide) C S dX5_hasItem_29
    · have hf := ifn c2 hf
      refine lv_iload_n (pc := 10) hx hb dX5_hasItem_10 rfl (lv_at hl 2 rfl) ?_
      refine lv_if_lt (tgt := 28) (pc := 11) hx hb dX5_hasItem_11 (by decide) (fun c3 => ?_) (fun c3 => ?_)
      · have hf := ifp c3 hf
        refine lv_iconst (pc := 28) hx hb dX5_hasItem_28 ic_0 ?_
        cases hf
        exact x_zret (pc := 29) (by decide) C S dX5_hasItem_29
      · have hf := ifn c3 hf
        refine lv_iload_n (pc := 14) hx hb dX5_hasItem_14 rfl (lv_at hl 2 rfl) ?_
        refine lv_aload_n (pc := 15) hx hb dX5_hasItem_15 rfl (lv_at hl 0 rfl) ?_
        refine x_get (pc := 16) (ci := 5) (T := TX5) (v := .ref a_t_sizes) C S 0 rfl rfl inlX5 1 (by decide) rfl qf_5_15 rfl dX5_hasItem_16 ?_
        refine lv_iload_n (pc := 19) hx hb dX5_hasItem_19 rfl (lv_at hl 1 rfl) ?_
        obtain ⟨hv4, hf⟩ := gI_e hf
        refine x_iald (pc := 20) C S 1 rfl hv4 dX5_hasItem_20 ?_
        refine lv_icmp_ge (tgt := 28) (pc := 21) hx hb dX5_hasItem_21 (by decide) (fun c5 => ?_) (fun c5 => ?_)
        · have hf := ifp c5 hf
          refine lv_iconst (pc := 28) hx hb dX5_hasItem_28 ic_0 ?_
          cases hf
          exact x_zret (pc := 29) (by decide) C S dX5_hasItem_29
        · have hf := ifn c5 hf
          refine lv_iconst (pc := 24) hx hb dX5_hasItem_24 ic_1 ?_
          refine lv_goto (tgt := 29) (pc := 25) hx hb dX5_hasItem_25 (by decide) ?_
          cases hf
          exact x_zret (pc := 29) (by decide) C S dX5_hasItem_29
end
abbrev rm_X5_isTape : Room := { frames := 0, cells := 0, slots := 0, locals := 0 }
abbrev kw_X5_isTape : Cond := .code yX5_isTape cX5_isTape 2 (some .boolean)
abbrev w_X5_isTape (G : GE) (a_t a_t_sorts a_t_sizes a_t_items : Nat) : va_W := [(a_t, ob 5 [.ref a_t_sorts, .ref a_t_sizes, .ref a_t_items])]
section
variable {p : Program} {l : Launch} {e : Env} {s : State} {m : MethodId} {args : Array Value} {below : List Frame} {meth : Method} {c : Code} {A : Nat → Prop} {G : GE} {a_t a_t_sorts a_t_sizes a_t_items : Nat} {r : Int32}
set_option maxRecDepth 100000 in
set_option maxHeartbeats 4000000 in
theorem c_X5_isTape (l : Launch) (G : GE) (a_t a_t_sorts a_t_sizes a_t_items : Nat) (x1 : Int32) (r : Int32) (hf : f_X5_isTape x1 = some r) : CI l G yX5_isTape kw_X5_isTape rm_X5_isTape [.ref a_t, .int x1] (w_X5_isTape G a_t a_t_sorts a_t_sizes a_t_items) r (w_X5_isTape G a_t a_t_sorts a_t_sizes a_t_items) := by
  refine en_I (cc := cX5_isTape) (maxL := 2) (ret := (some .boolean)) (by decide +kernel) (Nat.le_of_ble_eq_true rfl) ?_
  intro p e s m args below meth c A ls C S hl
  have hl : lv_has ls 2 [(0, .ref a_t), (1, .int x1)] := hl
  have C : Cx p s m args meth c cX5_isTape (some .boolean) 2 RX5 G A := C
  unfold f_X5_isTape at hf
  have hx := C.1
  have hb := C.2.1
  have hown := C.2.2.2.2.1
  have hts := C.2.2.2.2.2.1
  have hN := C.2.2.2.2.2.2.2.2.2.2
  refine lv_iload_n (pc := 0) hx hb dX5_isTape_0 rfl (lv_at hl 1 rfl) ?_
  refine lv_if_lt (tgt := 14) (pc := 1) hx hb dX5_isTape_1 (by decide) (fun c1 => ?_) (fun c1 => ?_)
  · have hf := ifp c1 hf
    refine lv_iconst (pc := 14) hx hb dX5_isTape_14 ic_0 ?_
    cases hf
    exact x_zret (pc := 15) (by decide) C S dX5_isTape_15
  · have hf := ifn c1 hf
    refine lv_iload_n (pc := 4) hx hb dX5_isTape_4 rfl (lv_at hl 1 rfl) ?_
    refine lv_bipush (pc := 5) hx hb dX5_isTape_5 bc_6 ?_
    refine lv_icmp_ge (tgt := 14) (pc := 7) hx hb dX5_isTape_7 (by decide) (fun c2 => ?_) (fun c2 => ?_)
    · have hf := ifp c2 hf
      refine lv_iconst (pc := 14) hx hb dX5_isTape_14 ic_0 ?_
      cases hf
      exact x_zret (pc := 15) (by decide) C S dX5_isTape_15
    · have hf := ifn c2 hf
      refine lv_iconst (pc := 10) hx hb dX5_isTape_10 ic_1 ?_
      refine lv_goto (tgt := 15) (pc := 11) hx hb dX5_isTape_11 (by decide) ?_
      cases hf
      exact x_zret (pc := 15) (by decide) C S dX5_isTape_15
end
abbrev rm_X5_itemAt : Room := { frames := 1, cells := 0, slots := 0, locals := 22 }
abbrev kw_X5_itemAt : Cond := .code yX5_itemAt cX5_itemAt 4 (some .long)
abbrev w_X5_itemAt (G : GE) (a_t a_t_sorts a_t_sizes a_t_items : Nat) (t_sizes : Nat → Int32) (t_items : Nat → Int64) : va_W := [(a_t, ob 5 [.ref a_t_sorts, .ref a_t_sizes, .ref a_t_items]), (a_t_sizes, aI G 6 t_sizes), (a_t_items, aJ G 360 t_items)]
theorem u_X5_itemAt_X5_hasItem_22 {s : State} {args : Array Value} (hts : ∀ w ∈ WU, w.before args s = true) : CallW rm_X5_itemAt s args RX5 RX5 22 yX5_hasItem cX5_hasItem 3 (some .boolean) (kw_X5_hasItem :: WU) rm_X5_hasItem 0 0 2 := cwV 2 hts (gV qm_5_22 qi_X5_hasItem ql_X5_hasItem qn_5 qc_X5_hasItem) rfl rfl rfl (by decide +kernel) ⟨Nat.le_of_ble_eq_true rfl, Nat.le_of_ble_eq_true rfl⟩
section
variable {p : Program} {l : Launch} {e : Env} {s : State} {m : MethodId} {args : Array Value} {below : List Frame} {meth : Method} {c : Code} {A : Nat → Prop} {G : GE} {a_t a_t_sorts a_t_sizes a_t_items : Nat} {r : Int64}
set_option maxRecDepth 100000 in
set_option maxHeartbeats 4000000 in
theorem c_X5_itemAt (l : Launch) (G : GE) (a_t a_t_sorts a_t_sizes a_t_items : Nat) (t_sizes : Nat → Int32) (t_items : Nat → Int64) (x1 : Int32) (x2 : Int32) (r : Int64) (hf : f_X5_itemAt t_sizes t_items x1 x2 = some r) : CL l G yX5_itemAt kw_X5_itemAt rm_X5_itemAt [.ref a_t, .int x1, .int x2] (w_X5_itemAt G a_t a_t_sorts a_t_sizes a_t_items t_sizes t_items) r (w_X5_itemAt G a_t a_t_sorts a_t_sizes a_t_items t_sizes t_items) := by
  refine en_L (cc := cX5_itemAt) (maxL := 4) (ret := (some .long)) (by decide +kernel) (Nat.le_of_ble_eq_true rfl) ?_
  intro p e s m args below meth c A ls C S hl
  have hl : lv_has ls 4 [(0, .ref a_t), (1, .int x1), (2, .int x2)] := hl
  have C : Cx p s m args meth c cX5_itemAt (some .long) 4 RX5 G A := C
  unfold f_X5_itemAt at hf
  have hx := C.1
  have hb := C.2.1
  have hown := C.2.2.2.2.1
  have hts := C.2.2.2.2.2.1
  have hN := C.2.2.2.2.2.2.2.2.2.2
  refine lv_iload_n (pc := 0) hx hb dX5_itemAt_0 rfl (lv_at hl 1 rfl) ?_
  refine lv_bipush (pc := 1) hx hb dX5_itemAt_1 bc_60 ?_
  refine lv_imul (pc := 3) hx hb dX5_itemAt_3 ?_
  refine lv_iload_n (pc := 4) hx hb dX5_itemAt_4 rfl (lv_at hl 2 rfl) ?_
  refine lv_iadd (pc := 5) hx hb dX5_itemAt_5 ?_
  refine lv_istore_n (pc := 6) (lv' := [(3, .int ((x1 * (60 : Int32)) + x2)), (0, .ref a_t), (1, .int x1), (2, .int x2)]) hx hb dX5_itemAt_6 rfl hl (by decide) rfl (fun ls hl => ?_)
  refine lv_aload_n (pc := 7) hx hb dX5_itemAt_7 rfl (lv_at hl 1 rfl) ?_
  refine lv_iload_n (pc := 8) hx hb dX5_itemAt_8 rfl (lv_at hl 2 rfl) ?_
  refine lv_iload_n (pc := 9) hx hb dX5_itemAt_9 rfl (lv_at hl 3 rfl) ?_
  obtain ⟨r1, hq1, hf⟩ := bd_e hf
  refine x_vI (pc := 10) (As := [.int x1, .int x2]) (rest := []) (isC := [0, 1]) (ws' := (w_X5_itemAt G a_t a_t_sorts a_t_sizes a_t_items t_sizes t_items)) C S (c_X5_hasItem l G a_t a_t_sorts a_t_sizes a_t_items t_sizes x1 x2 r1 hq1) (u_X5_itemAt_X5_hasItem_22 hts) (ci := 5) rfl 0 rfl rfl rfl rfl rfl rfl hl.1 rfl (Nat.le_of_ble_eq_true rfl) dX5_itemAt_10 (fun H locs S => ?_)
  refine lv_if_eq (tgt := 38) (pc := 13) hx hb dX5_itemAt_13 (by decide) (fun c2 => ?_) (fun c2 => ?_)
  · have hf := ifp c2 hf
    refine lv_lconst (pc := 38) hx hb dX5_itemAt_38 lc_0 ?_
    cases hf
    exact x_lret (pc := 39) C S dX5_itemAt_39
  · have hf := ifn c2 hf
    refine lv_iload_n (pc := 16) hx hb dX5_itemAt_16 rfl (lv_at hl 0 rfl) ?_
    refine lv_if_lt (tgt := 38) (pc := 17) hx hb dX5_itemAt_17 (by decide) (fun c3 => ?_) (fun c3 => ?_)
    · have hf := ifp c3 hf
      refine lv_lconst (pc := 38) hx hb dX5_itemAt_38 lc_0 ?_
      cases hf
      exact x_lret (pc := 39) C S dX5_itemAt_39
    · have hf := ifn c3 hf
      refine lv_iload_n (pc := 20) hx hb dX5_itemAt_20 rfl (lv_at hl 0 rfl) ?_
      refine lv_aload_n (pc := 21) hx hb dX5_itemAt_21 rfl (lv_at hl 1 rfl) ?_
      refine x_get (pc := 22) (ci := 5) (T := TX5) (v := .ref a_t_items) C S 0 rfl rfl inlX5 2 (by decide) rfl qf_5_18 rfl dX5_itemAt_22 ?_
      refine x_lenJ (pc := 25) C S 2 rfl nc_360 dX5_itemAt_25 ?_
      refine lv_icmp_ge (tgt := 38) (pc := 26) hx hb dX5_itemAt_26 (by decide) (fun c4 => ?_) (fun c4 => ?_)
      · have hf := ifp c4 hf
        refine lv_lconst (pc := 38) hx hb dX5_itemAt_38 lc_0 ?_
        cases hf
        exact x_lret (pc := 39) C S dX5_itemAt_39
      · have hf := ifn c4 hf
        refine lv_aload_n (pc := 29) hx hb dX5_itemAt_29 rfl (lv_at hl 1 rfl) ?_
        refine x_get (pc := 30) (ci := 5) (T := TX5) (v := .ref a_t_items) C S 0 rfl rfl inlX5 2 (by decide) rfl qf_5_18 rfl dX5_itemAt_30 ?_
        refine lv_iload_n (pc := 33) hx hb dX5_itemAt_33 rfl (lv_at hl 0 rfl) ?_
        obtain ⟨hv5, hf⟩ := gI_e hf
        refine x_lald (pc := 34) C S 2 rfl hv5 dX5_itemAt_34 ?_
        refine lv_goto (tgt := 39) (pc := 35) hx hb dX5_itemAt_35 (by decide) ?_
        cases hf
        exact x_lret (pc := 39) C S dX5_itemAt_39
end
abbrev rm_X5_sortOf : Room := { frames := 0, cells := 0, slots := 0, locals := 0 }
abbrev kw_X5_sortOf : Cond := .code yX5_sortOf cX5_sortOf 2 (some .int)
abbrev w_X5_sortOf (G : GE) (a_t a_t_sorts a_t_sizes a_t_items : Nat) (t_sorts : Nat → Int32) : va_W := [(a_t, ob 5 [.ref a_t_sorts, .ref a_t_sizes, .ref a_t_items]), (a_t_sorts, aI G 6 t_sorts)]
section
variable {p : Program} {l : Launch} {e : Env} {s : State} {m : MethodId} {args : Array Value} {below : List Frame} {meth : Method} {c : Code} {A : Nat → Prop} {G : GE} {a_t a_t_sorts a_t_sizes a_t_items : Nat} {r : Int32}
set_option maxRecDepth 100000 in
set_option maxHeartbeats 4000000 in
theorem c_X5_sortOf (l : Launch) (G : GE) (a_t a_t_sorts a_t_sizes a_t_items : Nat) (t_sorts : Nat → Int32) (x1 : Int32) (r : Int32) (hf : f_X5_sortOf t_sorts x1 = some r) : CI l G yX5_sortOf kw_X5_sortOf rm_X5_sortOf [.ref a_t, .int x1] (w_X5_sortOf G a_t a_t_sorts a_t_sizes a_t_items t_sorts) r (w_X5_sortOf G a_t a_t_sorts a_t_sizes a_t_items t_sorts) := by
  refine en_I (cc := cX5_sortOf) (maxL := 2) (ret := (some .int)) (by decide +kernel) (Nat.le_of_ble_eq_true rfl) ?_
  intro p e s m args below meth c A ls C S hl
  have hl : lv_has ls 2 [(0, .ref a_t), (1, .int x1)] := hl
  have C : Cx p s m args meth c cX5_sortOf (some .int) 2 RX5 G A := C
  unfold f_X5_sortOf at hf
  have hx := C.1
  have hb := C.2.1
  have hown := C.2.2.2.2.1
  have hts := C.2.2.2.2.2.1
  have hN := C.2.2.2.2.2.2.2.2.2.2
  refine lv_iload_n (pc := 0) hx hb dX5_sortOf_0 rfl (lv_at hl 1 rfl) ?_
  refine lv_if_lt (tgt := 22) (pc := 1) hx hb dX5_sortOf_1 (by decide) (fun c1 => ?_) (fun c1 => ?_)
  · have hf := ifp c1 hf
    refine lv_iconst (pc := 22) hx hb dX5_sortOf_22 ic_m1 ?_
    cases hf
    exact x_iret (pc := 23) C S dX5_sortOf_23
  · have hf := ifn c1 hf
    refine lv_iload_n (pc := 4) hx hb dX5_sortOf_4 rfl (lv_at hl 1 rfl) ?_
    refine lv_aload_n (pc := 5) hx hb dX5_sortOf_5 rfl (lv_at hl 0 rfl) ?_
    refine x_get (pc := 6) (ci := 5) (T := TX5) (v := .ref a_t_sorts) C S 0 rfl rfl inlX5 0 (by decide) rfl qf_5_9 rfl dX5_sortOf_6 ?_
    refine x_lenI (pc := 9) C S 1 rfl nc_6 dX5_sortOf_9 ?_
    refine lv_icmp_ge (tgt := 22) (pc := 10) hx hb dX5_sortOf_10 (by decide) (fun c2 => ?_) (fun c2 => ?_)
    · have hf := ifp c2 hf
      refine lv_iconst (pc := 22) hx hb dX5_sortOf_22 ic_m1 ?_
      cases hf
      exact x_iret (pc := 23) C S dX5_sortOf_23
    · have hf := ifn c2 hf
      refine lv_aload_n (pc := 13) hx hb dX5_sortOf_13 rfl (lv_at hl 0 rfl) ?_
      refine x_get (pc := 14) (ci := 5) (T := TX5) (v := .ref a_t_sorts) C S 0 rfl rfl inlX5 0 (by decide) rfl qf_5_9 rfl dX5_sortOf_14 ?_
      refine lv_iload_n (pc := 17) hx hb dX5_sortOf_17 rfl (lv_at hl 1 rfl) ?_
      obtain ⟨hv3, hf⟩ := gI_e hf
      refine x_iald (pc := 18) C S 1 rfl hv3 dX5_sortOf_18 ?_
      refine lv_goto (tgt := 23) (pc := 19) hx hb dX5_sortOf_19 (by decide) ?_
      cases hf
      exact x_iret (pc := 23) C S dX5_sortOf_23
end
