/-! THE CLAIM OUT OF ONE WALK OF THE LAW'S BODY. Your part is whole_start (and what it stands on); all else here is the same for every law, but numbers. -/
def R_law : String := "WindowRoundsLaw"
def lw_P (b : Addr) (xs : List Int32) (args : Array Value) (s : State) : Prop := args = #[.ref b] ∧ s.IntsAt b xs ∧ xs.length ≤ 3584 ∧ (Jvm.Cond.and given_1 narrow_1).before args s = true
def lw_Q (_ : Array Value) (s : State) (o : Outcome) (t : State) : Prop := o = .returned (some (.int 1)) ∧ Framed s o t [] 600000 7302249
def lw_Z (below : List Frame) (a : Array Value) (s : State) : State → Prop := fun t => ∃ o, t.status = .running ∧ Ended t below o ∧ lw_Q a s o t
/-- the law's own end, with 1 on the stack, nothing written that was there before, its room as the claim has it -/
theorem lw_ret {p : Program} {l : Launch} {e : Env} {s : State} {m : MethodId} {below : List Frame} {meth : Method} {c : Code} {b : Nat} (hx : p.tables.exec = Jvm.exec) (hb : c.code = code) (hr : meth.sig.returnType = ret) (hlocks : meth.locks = false) {pc : Nat} {H : Heap} {ls : Array Slot} (hdg : decode code pc = .ok (.ireturn, 1)) : W p l e room_1 s m #[Value.ref b] below meth c H [] 600000 7302249 (lw_Z below #[Value.ref b] s) (F0 m pc ls [.int 1]) := by
  intro T hT X
  obtain ⟨fs, hret, hrun, hended, hW, hframe⟩ := X.leave (v := some (.int 1)) (hlocks := hlocks) (fun h => by rw [hr] at h; cases h)
  have hmeth' : T.vm.method? m = some meth := X.method'
  refine ⟨T.setFrames fs, ?_, .returned (some (.int 1)), hrun, hended, rfl, ⟨_, rfl⟩, hW, hframe⟩
  jvm_step X.here [X.here.top, hx, hb, hdg, hmeth', hr, ret, narrow_b1]
  (try refine ⟨rfl, ?_⟩); (try refine ⟨rfl, ?_⟩)
  first | (intro acts; rw [hret _ acts rfl rfl rfl]) | rw [hret _ _ rfl rfl rfl]
  exact Steps.refl _
/-- what holds at the law's entry: the machine, the code, the tables' words (any of lw_tbl by 'hts w (by decide +kernel)'), the script of L ints xs at the cell b, what the Statement gives of the start (any of its parts by flat_of_before) -/
def lw_At (p : Program) (s : State) (m : MethodId) (meth : Method) (c : Code) (b L : Nat) (xs : Nat → Int32) : Prop :=
  p.tables.exec = Jvm.exec ∧ c.code = code ∧ meth.sig.returnType = ret ∧ c.maxLocals = 4 ∧ s.vm.findClass R_law = some m.cls ∧ (∀ w ∈ lw_tbl, w.before #[Value.ref b] s = true) ∧ va_X b L xs s s.heap ∧ b < s.heap.size ∧ meth.locks = false ∧ (Jvm.Cond.and given_1 narrow_1).before #[Value.ref b] s = true
/-! the law's own rows -/
def bI (x : Int32) : Int32 := if x = 0 then nI 0 else nI 1
theorem bI_or (x : Int32) : bI x = nI 0 ∨ bI x = nI 1 := by
  unfold bI
  split
  · exact Or.inl rfl
  · exact Or.inr rfl
def lgX (a b : Int32) : Int64 := (a.toInt64 <<< ((32 : Int32).toInt64 &&& 63)) ||| (b.toInt64 &&& 4294967295)
theorem lg_self {x y : Int64} (h : x = y) : lg_cmp x y = 0 := (lg_cmp_eq x y).mpr h
theorem q_law_189 : Cond.constantLong RL 189 (4294967295) ∈ WU := wu_1 _ (List.mem_of_getElem? (i := 6) rfl)
theorem qt_7 : Cond.instantiable RX7 11 ∈ WU := wu_1 _ (List.mem_of_getElem? (i := 1) rfl)
theorem qt_8 : Cond.instantiable RX8 29 ∈ WU := wu_1 _ (List.mem_of_getElem? (i := 4) rfl)
theorem qj_L_7 : Cond.classLink RL 7 RX7 ∈ WU := wu_1 _ (List.mem_of_getElem? (i := 0) rfl)
theorem qj_L_10 : Cond.classLink RL 10 RX8 ∈ WU := wu_1 _ (List.mem_of_getElem? (i := 3) rfl)
section LAWB
variable {p : Program} {l : Launch} {e : Env} {R : Room} {s : State} {m : MethodId} {args : Array Value} {below : List Frame} {meth : Method} {c : Code} {H : Heap} {locs : List Loc} {cells slots : Nat} {Q : State → Prop}
variable {ls : Array Slot} {rest : List Value} {G : GE} {ws : va_W} {b L i a7 a8 : Nat} {xs : Nat → Int32}
theorem l_arg {pc k : Nat} {n : Int} (C : Cx p s m args meth c cL_law ret 4 RL G (fun q : Nat => s.heap.size ≤ q)) (hX : va_X b L xs s s.heap) (hbl : b < s.heap.size) (S : St G (fun q : Nat => s.heap.size ≤ q) s.heap H locs ws) (hi : i + 7 ≤ L) (hL : L ≤ 3584) (hv : Int32.ofInt n = nI k) (hk : k < 7) (hl : lv_has ls 4 [(0, .ref b), (1, .ref a7), (2, .ref a8), (3, .int (nI i))]) (d0 : decode cL_law pc = .ok (.aload_n 0, 1)) (d1 : decode cL_law (pc + 1) = .ok (.iload_n 3, 1)) (d2 : decode cL_law (pc + 2) = .ok (.iconst n, 1)) (d3 : decode cL_law (pc + 3) = .ok (.iadd, 1)) (d4 : decode cL_law (pc + 4) = .ok (.iaload, 1)) (kk : W p l e R s m args below meth c H locs cells slots Q (F0 m (pc + 5) ls (.int (xs (i + k)) :: rest))) : W p l e R s m args below meth c H locs cells slots Q (F0 m pc ls rest) := by
  have hx := C.1
  have hb := C.2.1
  have hbA : ¬ (fun q : Nat => s.heap.size ≤ q) b := Nat.not_le.mpr hbl
  refine lv_aload_n (pc := pc) hx hb d0 rfl (lv_at hl 0 rfl) ?_
  refine lv_iload_n (pc := pc + 1) hx hb d1 rfl (lv_at hl 3 rfl) ?_
  refine lv_iconst (pc := pc + 2) hx hb d2 hv ?_
  refine lv_iadd (pc := pc + 3) hx hb d3 ?_
  have e1 : nI i + nI k = nI (i + k) := nI_add i k
  rw [e1]
  refine va_sld (pc := pc + 4) hx hb hX hbl hbA S.2.2 (vp_in_nI (by omega) (by omega)) d4 ?_
  rw [nI_clamp (by omega)]
  exact kk
theorem l_argb {pc : Nat} (C : Cx p s m args meth c cL_law ret 4 RL G (fun q : Nat => s.heap.size ≤ q)) (hX : va_X b L xs s s.heap) (hbl : b < s.heap.size) (S : St G (fun q : Nat => s.heap.size ≤ q) s.heap H locs ws) (hi : i + 7 ≤ L) (hL : L ≤ 3584) (hl : lv_has ls 4 [(0, .ref b), (1, .ref a7), (2, .ref a8), (3, .int (nI i))]) (d0 : decode cL_law pc = .ok (.aload_n 0, 1)) (d1 : decode cL_law (pc + 1) = .ok (.iload_n 3, 1)) (d2 : decode cL_law (pc + 2) = .ok (.bipush 6, 2)) (d3 : decode cL_law (pc + 4) = .ok (.iadd, 1)) (d4 : decode cL_law (pc + 5) = .ok (.iaload, 1)) (kk : W p l e R s m args below meth c H locs cells slots Q (F0 m (pc + 6) ls (.int (xs (i + 6)) :: rest))) : W p l e R s m args below meth c H locs cells slots Q (F0 m pc ls rest) := by
  have hx := C.1
  have hb := C.2.1
  have hbA : ¬ (fun q : Nat => s.heap.size ≤ q) b := Nat.not_le.mpr hbl
  refine lv_aload_n (pc := pc) hx hb d0 rfl (lv_at hl 0 rfl) ?_
  refine lv_iload_n (pc := pc + 1) hx hb d1 rfl (lv_at hl 3 rfl) ?_
  refine lv_bipush (pc := pc + 2) (v := nI 6) hx hb d2 (by decide) ?_
  refine lv_iadd (pc := pc + 4) hx hb d3 ?_
  have e1 : nI i + nI 6 = nI (i + 6) := nI_add i 6
  rw [e1]
  refine va_sld (pc := pc + 5) hx hb hX hbl hbA S.2.2 (vp_in_nI (by omega) (by omega)) d4 ?_
  rw [nI_clamp (by omega)]
  exact kk
theorem l_bool {pc : Nat} {x : Int32} {o1 o2 : Int} (hx : p.tables.exec = Jvm.exec) (hb : c.code = cL_law) (d0 : decode cL_law pc = .ok (.ifCond .eq o1, 3)) (d1 : decode cL_law (pc + 3) = .ok (.iconst 1, 1)) (d2 : decode cL_law (pc + 4) = .ok (.goto o2, 3)) (d3 : decode cL_law (pc + 7) = .ok (.iconst 0, 1)) (h1 : (pc : Int) + o1 = ((pc + 7 : Nat) : Int)) (h2 : ((pc + 4 : Nat) : Int) + o2 = ((pc + 8 : Nat) : Int)) (kk : W p l e R s m args below meth c H locs cells slots Q (F0 m (pc + 8) ls (.int (bI x) :: rest))) : W p l e R s m args below meth c H locs cells slots Q (F0 m pc ls (.int x :: rest)) := by
  refine lv_if_eq (pc := pc) (tgt := pc + 7) hx hb d0 h1 (fun z => ?_) (fun z => ?_)
  · have e1 : bI x = nI 0 := if_pos z
    rw [e1] at kk
    exact lv_iconst (pc := pc + 7) hx hb d3 (show Int32.ofInt 0 = nI 0 by decide) kk
  · have e1 : bI x = nI 1 := if_neg z
    rw [e1] at kk
    refine lv_iconst (pc := pc + 3) hx hb d1 (show Int32.ofInt 1 = nI 1 by decide) ?_
    exact lv_goto (pc := pc + 4) (tgt := pc + 8) hx hb d2 h2 kk
end LAWB
theorem law_arr {args : Array Value} {s : State} {ty : FieldType} (h : (Cond.arrayClass ty).before args s = true) (hRA : ∀ cA, va_RA s cA ty = (s.vm.findClass ("[" ++ ty.toString) = some cA)) : ∃ cA, ArrOfT s cA ty ∧ va_RA s cA ty := by
  obtain ⟨cA, kA, comp, h1, h2, h3⟩ := Cond.arrayClass_spec h
  exact ⟨cA, fun n z => ⟨fun k h => (by cases h), kA, h2, comp, h3⟩, by rw [hRA]; exact h1⟩
theorem law_tab {s : State} {args : Array Value} {nm : String} {N : Nat} {vs : List Int32} (hN : N < 2 ^ 31) (hl : (Cond.laysStatic RX7 nm "[I").before args s = true) (hini : (Cond.initialized RX7).before args s = true) (harr : (Cond.arrayOf (.static RX7 nm "[I") .int).before args s = true) (hlen : (Cond.eq (.length (.static RX7 nm "[I")) (.int (Int32.ofNat N))).before args s = true) (hel : ∀ j, j < N → (Cond.eq (.elem (.static RX7 nm "[I") (.int (Int32.ofNat j))) (.int (vs.getD j 0))).before args s = true) : ∃ t : Nat, va_Z RX7 nm "[I" (.ref t) (fun q : Nat => s.heap.size ≤ q) s s.heap ∧ va_T .int t N (fun j => .int (vs.getD j 0)) (fun q : Nat => s.heap.size ≤ q) s s.heap := by
  have hA : ∀ a : Nat, a < s.heap.size → ¬ (fun q : Nat => s.heap.size ≤ q) a := fun a h => Nat.not_le.mpr h
  obtain ⟨t, h1, h2⟩ := va_Tof (f := fun j => .int (vs.getD j 0)) (A := fun q : Nat => s.heap.size ≤ q) hN harr (va_eqt hlen) (fun j hj => va_eqt (hel j hj)) hA
  exact ⟨t, va_Zref hl hini h1 hA, h2⟩
set_option maxHeartbeats 4000000 in
set_option maxRecDepth 100000 in
theorem law_C {p : Program} {s : State} {m : MethodId} {meth : Method} {c : Code} {b L : Nat} {xs : Nat → Int32} (C0 : lw_At p s m meth c b L xs) : ∃ G : GE, Cx p s m #[.ref b] meth c cL_law ret 4 RL G (fun q : Nat => s.heap.size ≤ q) := by
  obtain ⟨hx, hb, hr, hml, hown, hts0, hX, hbl, hlocks, hgv⟩ := id C0
  have hts : ∀ w ∈ WU, w.before #[.ref b] s = true := fun w h => hts0 w (wsL_law_in w h)
  have hs := flat_of_before _ hgv
  obtain ⟨c0, i0, k0⟩ := u_known (C := RX0) (T := TX0) (N := 12) (n := 12) hts inlX0 (hts _ qt_0)
  obtain ⟨c1, i1, k1⟩ := u_known (C := RX1) (T := TX1) (N := 10) (n := 10) hts inlX1 (hts _ qt_1)
  obtain ⟨c2, i2, k2⟩ := u_known (C := RX2) (T := TX2) (N := 8) (n := 8) hts inlX2 (hts _ qt_2)
  obtain ⟨c3, i3, k3⟩ := u_known (C := RX3) (T := TX3) (N := 3) (n := 3) hts inlX3 (hts _ qt_3)
  obtain ⟨c4, i4, k4⟩ := u_known (C := RX4) (T := TX4) (N := 6) (n := 6) hts inlX4 (hts _ qt_4)
  obtain ⟨c5, i5, k5⟩ := u_known (C := RX5) (T := TX5) (N := 3) (n := 3) hts inlX5 (hts _ qt_5)
  obtain ⟨c6, i6, k6⟩ := u_known (C := RX6) (T := TX6) (N := 12) (n := 12) hts inlX6 (hts _ qt_6)
  obtain ⟨c7, i7, k7⟩ := u_known (C := RX7) (T := TX7) (N := 11) (n := 11) hts inlX7 (hts _ qt_7)
  obtain ⟨c8, i8, k8⟩ := u_known (C := RX8) (T := TX8) (N := 29) (n := 29) hts inlX8 (hts _ qt_8)
  obtain ⟨dI, a1, a2⟩ := law_arr (hts _ qa_I) (fun _ => rfl)
  obtain ⟨dZ, b1, b2⟩ := law_arr (hts _ qa_Z) (fun _ => rfl)
  obtain ⟨dJ, e1, e2⟩ := law_arr (hts _ qa_J) (fun _ => rfl)
  obtain ⟨t0, z0, y0⟩ := law_tab (nm := "FACT_TOPS") (N := 6) (vs := [63, 63, 20, 999, 999, 30]) (by decide) (hts0 _ (List.mem_of_getElem? (i := 371) (by decide +kernel))) (hts _ qn_7) (hs _ (by decide +kernel)) (hs _ (by decide +kernel)) (fun j hj => by rcases (show j = 0 ∨ j = 1 ∨ j = 2 ∨ j = 3 ∨ j = 4 ∨ j = 5 by omega) with rfl | rfl | rfl | rfl | rfl | rfl <;> exact hs _ (by decide +kernel))
  obtain ⟨t1, z1, y1⟩ := law_tab (nm := "FACT_DRAWS") (N := 6) (vs := [64, 64, 10, 400, 200, 20]) (by decide) (hts0 _ (List.mem_of_getElem? (i := 894) (by decide +kernel))) (hts _ qn_7) (hs _ (by decide +kernel)) (hs _ (by decide +kernel)) (fun j hj => by rcases (show j = 0 ∨ j = 1 ∨ j = 2 ∨ j = 3 ∨ j = 4 ∨ j = 5 by omega) with rfl | rfl | rfl | rfl | rfl | rfl <;> exact hs _ (by decide +kernel))
  obtain ⟨t2, z2, y2⟩ := law_tab (nm := "RULE_TOPS") (N := 3) (vs := [60, 999, 1999]) (by decide) (hts0 _ (List.mem_of_getElem? (i := 544) (by decide +kernel))) (hts _ qn_7) (hs _ (by decide +kernel)) (hs _ (by decide +kernel)) (fun j hj => by rcases (show j = 0 ∨ j = 1 ∨ j = 2 by omega) with rfl | rfl | rfl <;> exact hs _ (by decide +kernel))
  refine ⟨((fun k => [c0, c1, c2, c3, c4, c5, c6, c7, c8].getD k c0, fun k => match k with | 0 => i0 | 1 => i1 | 2 => i2 | 3 => i3 | 4 => i4 | 5 => i5 | 6 => i6 | 7 => i7 | _ => i8), dI, dZ, dJ, t0, t1, t2), hx, hb, hr, hml, hown, hts, hlocks, ⟨fun k q hq => ?_, fun k q hq => ?_⟩, fun k hk => ?_, fun _ h => h, fun q hq => ?_, fun q hq => ?_⟩
  · match k, hq with
    | 0, hq => cases hq; exact k0
    | 1, hq => cases hq; exact k1
    | 2, hq => cases hq; exact k2
    | 3, hq => cases hq; exact k3
    | 4, hq => cases hq; exact k4
    | 5, hq => cases hq; exact k5
    | 6, hq => cases hq; exact k6
    | 7, hq => cases hq; exact k7
    | 8, hq => cases hq; exact k8
    | k + 9, hq => simp [vwCl] at hq
  · match k, hq with
    | 0, hq => cases hq; exact ⟨a1, a2⟩
    | 1, hq => cases hq; exact ⟨b1, b2⟩
    | 2, hq => cases hq; exact ⟨e1, e2⟩
    | k + 3, hq => simp [tyl] at hq
  · match k, hk with
    | 0, _ => exact ⟨z0, y0⟩
    | 1, _ => exact ⟨z1, y1⟩
    | 2, _ => exact ⟨z2, y2⟩
  · refine va_Nw.of rfl (A := #[.ref b]) (hts0 _ ?_)
    simp only [nstM, List.mem_cons, List.not_mem_nil, or_false] at hq
    rcases hq with rfl | rfl | rfl | rfl | rfl | rfl | rfl | rfl | rfl | rfl | rfl | rfl | rfl
    · exact List.mem_of_getElem? (i := 420) (by decide +kernel)
    · exact List.mem_of_getElem? (i := 438) (by decide +kernel)
    · exact List.mem_of_getElem? (i := 161) (by decide +kernel)
    · exact List.mem_of_getElem? (i := 210) (by decide +kernel)
    · exact List.mem_of_getElem? (i := 253) (by decide +kernel)
    · exact List.mem_of_getElem? (i := 287) (by decide +kernel)
    · exact List.mem_of_getElem? (i := 215) (by decide +kernel)
    · exact List.mem_of_getElem? (i := 258) (by decide +kernel)
    · exact List.mem_of_getElem? (i := 886) (by decide +kernel)
    · exact List.mem_of_getElem? (i := 581) (by decide +kernel)
    · exact List.mem_of_getElem? (i := 83) (by decide +kernel)
    · exact List.mem_of_getElem? (i := 879) (by decide +kernel)
    · exact List.mem_of_getElem? (i := 439) (by decide +kernel)
  · refine va_Nw.of rfl (A := #[.ref b]) (hts0 _ ?_)
    simp only [nstF, List.mem_cons, List.not_mem_nil, or_false] at hq
    rcases hq with rfl | rfl | rfl
    · exact List.mem_of_getElem? (i := 419) (by decide +kernel)
    · exact List.mem_of_getElem? (i := 893) (by decide +kernel)
    · exact List.mem_of_getElem? (i := 437) (by decide +kernel)
