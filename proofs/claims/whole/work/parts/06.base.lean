abbrev vwCl : List vw_C := [(RX0, TX0, 12), (RX1, TX1, 10), (RX2, TX2, 8), (RX3, TX3, 3), (RX4, TX4, 6), (RX5, TX5, 3), (RX6, TX6, 12), (RX7, TX7, 11), (RX8, TX8, 29)]
/-! base: the world of a method is a list of cells at addresses that are variables; a contract gives the same list with other contents -/
abbrev GE : Type := va_G × ClassId × ClassId × ClassId × Nat × Nat × Nat
def tyl (G : GE) : List (ClassId × FieldType) := [(G.2.1, .int), (G.2.2.1, .boolean), (G.2.2.2.1, .long)]
abbrev aI (G : GE) (n : Nat) (f : Nat → Int32) : va_E := .inl (G.2.1, n, .inl f)
abbrev aZ (G : GE) (n : Nat) (f : Nat → Int32) : va_E := .inl (G.2.2.1, n, .inl f)
abbrev aJ (G : GE) (n : Nat) (f : Nat → Int64) : va_E := .inl (G.2.2.2.1, n, .inr (.inl f))
abbrev ob (ci : Nat) (fs : List Value) : va_E := .inr (ci, fs)
/-- the three tables of the class: what each holds, its address, its field -/
def tabL (k : Nat) : List Int32 := match k with
  | 0 => [63, 63, 20, 999, 999, 30]
  | 1 => [64, 64, 10, 400, 200, 20]
  | _ => [60, 999, 1999]
def tabA (G : GE) (k : Nat) : Nat := match k with
  | 0 => G.2.2.2.2.1
  | 1 => G.2.2.2.2.2.1
  | _ => G.2.2.2.2.2.2
def tabN (k : Nat) : String := match k with
  | 0 => "FACT_TOPS"
  | 1 => "FACT_DRAWS"
  | _ => "RULE_TOPS"
def Sx (G : GE) (A : Nat → Prop) (U : State) (H : Heap) : Prop := ∀ k, k < 3 → va_Z RX7 (tabN k) "[I" (.ref (tabA G k)) A U H ∧ va_T .int (tabA G k) (tabL k).length (fun j => .int ((tabL k).getD j 0)) A U H
theorem Sx.moved {G : GE} {A : Nat → Prop} {u U : State} {H : Heap} (hvm : u.vm.Alike U.vm) (h : Sx G A u H) : Sx G A U H := fun k hk => ⟨va_Z.moved hvm (h k hk).1, va_T.moved hvm (h k hk).2⟩
theorem Sx.kept {G : GE} {A : Nat → Prop} {U : State} {H H1 : Heap} (h : Sx G A U H) (hq : ∀ a : Nat, a < H.size → ¬ A a → H1[a]? = H[a]?) : Sx G A U H1 := fun k hk => ⟨(h k hk).1.kept hq, (h k hk).2.kept hq⟩
theorem Sx.narrow {G : GE} {A B : Nat → Prop} {U : State} {H : Heap} (h : Sx G A U H) (hAB : ∀ q, B q → A q) : Sx G B U H := fun k hk => ⟨(h k hk).1.narrow hAB, (h k hk).2.narrow hAB⟩
/-- links among nest mates -/
def nstM : List (String × Nat × MethodName) := [(RX4, 53, yX7_topOf), (RX6, 81, yX7_topOf), (RX7, 26, yX0_init), (RX7, 33, yX1_init), (RX7, 40, yX2_init), (RX7, 47, yX4_init), (RX1, 11, yX0_init), (RX2, 11, yX0_init), (RX3, 22, yX7_copyRow), (RX6, 106, yX7_isRound), (RX6, 33, yX3_init), (RX6, 52, yX7_copyRow), (RX6, 92, yX7_isUpTo)]
def nstF : List (String × Nat × String) := [(RX4, 50, "FACT_TOPS"), (RX6, 78, "FACT_DRAWS"), (RX6, 89, "FACT_TOPS")]
def Nx (U : State) : Prop := (∀ q ∈ nstM, va_Nw (.methodLinkNest q.1 q.2.1 q.2.2 RX7) U) ∧ ∀ q ∈ nstF, va_Nw (.fieldLinkNest q.1 q.2.1 RX7 q.2.2 "[I" RX7) U
theorem Nx.same {u U : State} (h : u.vm = U.vm) (hN : Nx u) : Nx U := ⟨fun q hq => va_Nw.same rfl h (hN.1 q hq), fun q hq => va_Nw.same rfl h (hN.2 q hq)⟩
theorem Nx.warm {s U : State} (hW : s.WarmedH U.vm) (hN : Nx s) : Nx U := ⟨fun q hq => va_Nw.warmM hW (hN.1 q hq), fun q hq => va_Nw.warmF hW (hN.2 q hq)⟩
def Cx (p : Program) (s : State) (m : MethodId) (args : Array Value) (meth : Method) (c : Code) (cc : ByteArray) (ret : Option FieldType) (nL : Nat) (own : String) (G : GE) (A : Nat → Prop) : Prop := p.tables.exec = Jvm.exec ∧ c.code = cc ∧ meth.sig.returnType = ret ∧ c.maxLocals = nL ∧ s.vm.findClass own = some m.cls ∧ (∀ w ∈ WU, w.before args s = true) ∧ meth.locks = false ∧ va_K G.1 vwCl (tyl G) s ∧ Sx G A s s.heap ∧ (∀ q, s.heap.size ≤ q → A q) ∧ Nx s
def St (G : GE) (A : Nat → Prop) (H0 H : Heap) (locs : List Loc) (ws : va_W) : Prop := va_P G.1 vwCl ws H ∧ va_D A ws ∧ va_S A H0 H locs
def PreG (G : GE) (w0 : va_W) (sz : Nat) : State → Prop := fun U => U.heap.size = sz ∧ va_P G.1 vwCl w0 U.heap ∧ va_K G.1 vwCl (tyl G) U ∧ va_D (fun _ => True) w0 ∧ Sx G (va_A w0 sz) U U.heap ∧ Nx U
theorem PreG.blind {G : GE} {as : List Value} {w0 : va_W} {sz : Nat} : FrameBlind (va_Pc as (PreG G w0 sz)) := fun a U g mk q => by
  obtain ⟨q0, q1, qP, qK, qD, qS, qN⟩ := q
  exact ⟨q0, q1, qP, va_K.moved (u := U) (U := U.calling g mk a) (Vm.Alike.refl U.vm) qK, qD, Sx.moved (u := U) (U := U.calling g mk a) (Vm.Alike.refl U.vm) qS, Nx.same (u := U) (U := U.calling g mk a) rfl qN⟩
abbrev PQi (G : GE) (r : Int32) (w1 : va_W) (A : Nat → Prop) : Array Value → State → Outcome → State → Prop := va_Qi (fun (r' : Int32) (_ : Unit) => r' = r) (fun _ t => va_P G.1 vwCl w1 t.heap) A
abbrev PQl (G : GE) (r : Int64) (w1 : va_W) (A : Nat → Prop) : Array Value → State → Outcome → State → Prop := va_Ql (fun (r' : Int64) (_ : Unit) => r' = r) (fun _ t => va_P G.1 vwCl w1 t.heap) A
abbrev PQv (G : GE) (w1 : va_W) (A : Nat → Prop) : Array Value → State → Outcome → State → Prop := va_Qv (fun (_ : Unit) => True) (fun _ t => va_P G.1 vwCl w1 t.heap) A
def CI (l : Launch) (G : GE) (y : MethodName) (kw : Cond) (rm : Room) (as : List Value) (w0 : va_W) (r : Int32) (w1 : va_W) : Prop := ∀ sz : Nat, Met l y (kw :: WU) rm (va_Pc as (PreG G w0 sz)) (PQi G r w1 (va_A w0 sz)) 0 0 (va_A w0 sz)
def CL (l : Launch) (G : GE) (y : MethodName) (kw : Cond) (rm : Room) (as : List Value) (w0 : va_W) (r : Int64) (w1 : va_W) : Prop := ∀ sz : Nat, Met l y (kw :: WU) rm (va_Pc as (PreG G w0 sz)) (PQl G r w1 (va_A w0 sz)) 0 0 (va_A w0 sz)
def CV (l : Launch) (G : GE) (y : MethodName) (kw : Cond) (rm : Room) (as : List Value) (w0 : va_W) (w1 : va_W) : Prop := ∀ sz : Nat, Met l y (kw :: WU) rm (va_Pc as (PreG G w0 sz)) (PQv G w1 (va_A w0 sz)) 0 0 (va_A w0 sz)
abbrev QI (G : GE) (below : List Frame) (args : Array Value) (s : State) (A : Nat → Prop) (r : Int32) (w1 : va_W) : State → Prop := MQ below (PQi G r w1 A) args s 0 0 A
abbrev QL (G : GE) (below : List Frame) (args : Array Value) (s : State) (A : Nat → Prop) (r : Int64) (w1 : va_W) : State → Prop := MQ below (PQl G r w1 A) args s 0 0 A
abbrev QV (G : GE) (below : List Frame) (args : Array Value) (s : State) (A : Nat → Prop) (w1 : va_W) : State → Prop := MQ below (PQv G w1 A) args s 0 0 A
/-- cells put at places: by a mask, a row's new cell or its own -/
def mrg : List (Option Nat) → va_W → va_W → va_W
  | m :: ms, c :: cs, w1 => (match m with | none => c | some j => (w1[j]?).getD c) :: mrg ms cs w1
  | _, _, _ => []
def okm (mk : List (Option Nat)) (isC : List Nat) : Bool := (List.range mk.length).all fun k => match mk[k]? with
  | some (some j) => isC[j]? == some k
  | some none => !(isC.contains k)
  | none => true
theorem mrg_get : ∀ (mk : List (Option Nat)) (ws w1 : va_W) (k : Nat) (q : Nat × va_E), (mrg mk ws w1)[k]? = some q → ∃ c, ws[k]? = some c ∧ ((mk[k]? = some none ∧ q = c) ∨ ∃ j : Nat, mk[k]? = some (some j) ∧ q = (w1[j]?).getD c) := by
  intro mk
  induction mk with
  | nil => intro ws w1 k q h; simp [mrg] at h
  | cons m ms ih =>
    intro ws w1 k q h
    cases ws with
    | nil => simp [mrg] at h
    | cons c cs =>
      cases k with
      | zero =>
        refine ⟨c, rfl, ?_⟩
        cases m with
        | none => exact Or.inl ⟨rfl, (Option.some.inj h).symm⟩
        | some j => exact Or.inr ⟨j, rfl, (Option.some.inj h).symm⟩
      | succ k =>
        have h' : (mrg ms cs w1)[k]? = some q := by simpa [mrg] using h
        obtain ⟨c', h1, h2⟩ := ih cs w1 k q h'
        exact ⟨c', by simpa using h1, by simpa using h2⟩
theorem okm_s {mk : List (Option Nat)} {isC : List Nat} (h : okm mk isC = true) {k j : Nat} (hk : mk[k]? = some (some j)) : isC[j]? = some k := by
  have h1 := List.all_eq_true.mp h k (List.mem_range.mpr (List.getElem?_eq_some_iff.mp hk).1)
  simp only [hk] at h1
  simpa using h1
theorem okm_n {mk : List (Option Nat)} {isC : List Nat} (h : okm mk isC = true) {k : Nat} (hk : mk[k]? = some none) : k ∉ isC := by
  have h1 := List.all_eq_true.mp h k (List.mem_range.mpr (List.getElem?_eq_some_iff.mp hk).1)
  simp only [hk] at h1
  simpa using h1
theorem cut_at {ws wc : va_W} {isC : List Nat} (hC : isC.map (fun i => ws[i]?) = wc.map some) {k : Nat} {q : Nat × va_E} (h : wc[k]? = some q) : ∃ i, isC[k]? = some i ∧ ws[i]? = some q := by
  have h1 : (isC.map (fun i => ws[i]?))[k]? = some (some q) := by rw [hC, List.getElem?_map, h]; rfl
  rw [List.getElem?_map] at h1
  cases hi : isC[k]? with
  | none => rw [hi] at h1; cases h1
  | some i => rw [hi] at h1; exact ⟨i, rfl, Option.some.inj h1⟩
theorem cut_ta {ws wc : va_W} {isC : List Nat} (hC : isC.map (fun i => ws[i]?) = wc.map some) {k i : Nat} (h : isC[k]? = some i) : ∃ q, wc[k]? = some q ∧ ws[i]? = some q := by
  have h1 : (isC.map (fun i => ws[i]?))[k]? = some (ws[i]?) := by rw [List.getElem?_map, h]; rfl
  rw [hC, List.getElem?_map] at h1
  cases hi : wc[k]? with
  | none => rw [hi] at h1; cases h1
  | some q => rw [hi] at h1; exact ⟨q, rfl, (Option.some.inj h1).symm⟩
theorem St.put {G : GE} {A : Nat → Prop} {H0 H H1 : Heap} {locs locs1 : List Loc} {ws wc w1 ws2 : va_W} {isC : List Nat} (S : St G A H0 H locs ws) (hC : isC.map (fun i => ws[i]?) = wc.map some) {mk : List (Option Nat)} (hmk : okm mk isC = true) (hset : mrg mk ws w1 = ws2) (hadr : w1.map (fun q => q.1) = wc.map (fun q => q.1)) (hP1 : va_P G.1 vwCl w1 H1) (hkeep : ∀ q : Nat, q < H.size → ¬ va_A wc H.size q → H1[q]? = H[q]?) (hS1 : va_S A H0 H1 locs1) : St G A H0 H1 locs1 ws2 := by
  subst hset
  have hl1 : w1.length = wc.length := by simpa using congrArg List.length hadr
  have key : ∀ (k : Nat) (q : Nat × va_E), (mrg mk ws w1)[k]? = some q → (∃ j : Nat, isC[j]? = some k ∧ w1[j]? = some q) ∨ (k ∉ isC ∧ ws[k]? = some q) := by
    intro k q h
    obtain ⟨c, h1, h2 | ⟨j, h2, h3⟩⟩ := mrg_get mk ws w1 k q h
    · exact Or.inr ⟨okm_n hmk h2.1, by rw [h2.2]; exact h1⟩
    · have h4 := okm_s hmk h2
      obtain ⟨q', h5, -⟩ := cut_ta hC h4
      have h6 : j < w1.length := by rw [hl1]; exact (List.getElem?_eq_some_iff.mp h5).1
      refine Or.inl ⟨j, h4, ?_⟩
      rw [h3, List.getElem?_eq_getElem h6]
      rfl
  have adr : ∀ (k : Nat) (q : Nat × va_E), (mrg mk ws w1)[k]? = some q → ∃ q', ws[k]? = some q' ∧ q'.1 = q.1 := by
    intro k q h
    rcases key k q h with ⟨j, h1, h2⟩ | ⟨-, h2⟩
    · obtain ⟨q', h3, h4⟩ := cut_ta hC h1
      refine ⟨q', h4, ?_⟩
      have h5 := congrArg (fun z => z[j]?) hadr
      simp only [List.getElem?_map, h2, h3, Option.map_some, Option.some.injEq] at h5
      exact h5.symm
    · exact ⟨q, h2, rfl⟩
  refine ⟨fun k q h => ?_, ⟨fun i j x y hx hy hxy => ?_, fun k q h => ?_⟩, hS1⟩
  · rcases key k q h with ⟨j, h1, h2⟩ | ⟨h1, h2⟩
    · exact hP1 j q h2
    · have hat := S.1 k q h2
      refine hat.kept (hkeep q.1 hat.lt fun hq => ?_)
      rcases hq with ⟨k2, e, hq⟩ | hq
      · obtain ⟨i, h3, h4⟩ := cut_at hC hq
        have := S.2.1.1 k i q (q.1, e) h2 h4 rfl
        subst this
        exact h1 (List.mem_of_getElem? h3)
      · exact absurd hat.lt (Nat.not_lt.mpr hq)
  · obtain ⟨x', hx', ex⟩ := adr i x hx
    obtain ⟨y', hy', ey⟩ := adr j y hy
    exact S.2.1.1 i j x' y' hx' hy' (by rw [ex, ey, hxy])
  · obtain ⟨q', hq', eq⟩ := adr k q h
    rw [← eq]
    exact S.2.1.2 k q' hq'
theorem St.pre {G : GE} {A : Nat → Prop} {s : State} {H : Heap} {locs : List Loc} {ws wc : va_W} {isC : List Nat} (hK : va_K G.1 vwCl (tyl G) s) (hSx : Sx G A s s.heap) (hA : ∀ q, s.heap.size ≤ q → A q) (hN : Nx s) (S : St G A s.heap H locs ws) (hC : isC.map (fun i => ws[i]?) = wc.map some) (hd : va_nd isC = true) : ∀ U : State, U.heap = H → s.WarmedH U.vm → PreG G wc H.size U := by
  intro U hU hW
  subst hU
  have hF := va_free S.2.1 S.2.2 hA isC hC
  refine ⟨rfl, fun k q h => ?_, va_K.moved hW.alike hK, (S.2.1.sub isC hd hC).weaken (fun _ _ _ _ => trivial), ?_, hN.warm hW⟩
  · obtain ⟨i, -, h2⟩ := cut_at hC h
    exact S.1 i q h2
  · exact (Sx.moved hW.alike (hSx.kept (fun a h1 h2 => S.2.2.2.1 a h1 h2))).narrow hF
section GB
variable {p : Program} {l : Launch} {e : Env} {R : Room} {s : State} {m : MethodId} {args : Array Value} {below : List Frame} {meth : Method} {c : Code} {H : Heap} {locs : List Loc} {cells slots : Nat} {Q : State → Prop}
variable {pc : Nat} {ls : Array Slot} {rest st0 : List Value} {A : Nat → Prop} {G : GE} {cc : ByteArray} {ret : Option FieldType} {nL : Nat} {own : String} {ws ws' : va_W} {a : Nat}
theorem x_get (C : Cx p s m args meth c cc ret nL own G A) (S : St G A s.heap H locs ws) {Cn : String} {T : u_T} {N ci index : Nat} (q0 : Nat) {fs : List Value} (he : ws[q0]? = some (a, .inr (ci, fs))) (hc : vwCl[ci]? = some (Cn, T, N)) (hin : ∀ w ∈ u_ws Cn T N, w ∈ WU) (k : Nat) (hk : k < N) (ho : (T k).1 = Cn) (hl : Cond.fieldLink own index Cn (T k).2.1 (T k).2.2.1 ∈ WU) {v : Value} (hv : fs[k]? = some v) (hdg : decode cc pc = .ok (.getfield index, 3)) (kk : W p l e R s m args below meth c H locs cells slots Q (F0 m (pc + 3) ls (v :: rest))) : W p l e R s m args below meth c H locs cells slots Q (F0 m pc ls (.ref a :: rest)) := by
  obtain ⟨hx, hb, hr, hml, hown, hts, hlk, hK, hSx, hA, hN⟩ := C
  exact va_get hx hb hts hin hown hK S.1 q0 he hc k hk (hts _ hl) (fun _ h => by rw [ho] at h; exact h) hv hdg kk
theorem x_put (C : Cx p s m args meth c cc ret nL own G A) (S : St G A s.heap H locs ws) {Cn : String} {T : u_T} {N ci index : Nat} (ty0 : Nat → FieldType) (hty : ∀ k, k < N → parseFieldDescriptor (T k).2.2.1 = some (ty0 k)) (hnm : ∀ a, a < N → ∀ b, b < N → a ≠ b → (T a).2.1 ≠ (T b).2.1) (q0 : Nat) {fs : List Value} (he : ws[q0]? = some (a, .inr (ci, fs))) (hc : vwCl[ci]? = some (Cn, T, N)) (hin : ∀ w ∈ u_ws Cn T N, w ∈ WU) (k : Nat) (hk : k < N) (ho : (T k).1 = Cn) (hl : Cond.fieldLink own index Cn (T k).2.1 (T k).2.2.1 ∈ WU) (hfin : (T k).2.2.2 = false) {ty : FieldType} {v : Value} (hd : ty0 k = ty) (hn : narrow ty v = v) (hfit : fits ty v = true) (hlf : k < fs.length) (hw : ws.set q0 (a, .inr (ci, fs.set k v)) = ws') (hdg : decode cc pc = .ok (.putfield index, 3)) (kk : ∀ (H1 : Heap) (locs1 : List Loc), St G A s.heap H1 locs1 ws' → W p l e R s m args below meth c H1 locs1 cells slots Q (F0 m (pc + 3) ls rest)) : W p l e R s m args below meth c H locs cells slots Q (F0 m pc ls (v :: .ref a :: rest)) := by
  obtain ⟨hx, hb, hr, hml, hown, hts, hlk, hK, hSx, hA, hN⟩ := C
  subst hw
  exact va_put hx hb hts hin ty0 hty hnm hown hK S.1 S.2.1 S.2.2 q0 he hc k hk (hts _ hl) (fun _ h => by rw [ho] at h; exact h) hfin (by rw [hty k hk, hd]) hn hfit hlf hdg (fun H1 locs1 h1 h2 h3 => kk H1 locs1 ⟨h1, h2, h3⟩)
theorem x_iald (C : Cx p s m args meth c cc ret nL own G A) (S : St G A s.heap H locs ws) (q0 : Nat) {n : Nat} {f : Nat → Int32} (ha : ws[q0]? = some (a, aI G n f)) {i : Int32} (hin : vp_in i n) (hdg : decode cc pc = .ok (.iaload, 1)) (kk : W p l e R s m args below meth c H locs cells slots Q (F0 m (pc + 1) ls (.int (f i.toNatClampNeg) :: rest))) : W p l e R s m args below meth c H locs cells slots Q (F0 m pc ls (.int i :: .ref a :: rest)) :=
  va_iald C.1 C.2.1 C.2.2.2.2.2.2.2.1 S.1 q0 0 ha rfl hin hdg kk
theorem x_zald (C : Cx p s m args meth c cc ret nL own G A) (S : St G A s.heap H locs ws) (q0 : Nat) {n : Nat} {f : Nat → Int32} (ha : ws[q0]? = some (a, aZ G n f)) {i : Int32} (hin : vp_in i n) (hdg : decode cc pc = .ok (.baload, 1)) (kk : W p l e R s m args below meth c H locs cells slots Q (F0 m (pc + 1) ls (.int (f i.toNatClampNeg) :: rest))) : W p l e R s m args below meth c H locs cells slots Q (F0 m pc ls (.int i :: .ref a :: rest)) :=
  va_zald C.1 C.2.1 C.2.2.2.2.2.2.2.1 S.1 q0 1 ha rfl hin hdg kk
theorem x_lald (C : Cx p s m args meth c cc ret nL own G A) (S : St G A s.heap H locs ws) (q0 : Nat) {n : Nat} {f : Nat → Int64} (ha : ws[q0]? = some (a, aJ G n f)) {i : Int32} (hin : vp_in i n) (hdg : decode cc pc = .ok (.laload, 1)) (kk : W p l e R s m args below meth c H locs cells slots Q (F0 m (pc + 1) ls (.long (f i.toNatClampNeg) :: rest))) : W p l e R s m args below meth c H locs cells slots Q (F0 m pc ls (.int i :: .ref a :: rest)) :=
  va_lald C.1 C.2.1 C.2.2.2.2.2.2.2.1 S.1 q0 2 ha rfl hin hdg kk
theorem x_iast (C : Cx p s m args meth c cc ret nL own G A) (S : St G A s.heap H locs ws) (q0 : Nat) {n : Nat} {f : Nat → Int32} (ha : ws[q0]? = some (a, aI G n f)) {i x : Int32} (hin : vp_in i n) (hw : ws.set q0 (a, aI G n (upd f i.toNatClampNeg x)) = ws') (hdg : decode cc pc = .ok (.iastore, 1)) (kk : ∀ (H1 : Heap) (locs1 : List Loc), St G A s.heap H1 locs1 ws' → W p l e R s m args below meth c H1 locs1 cells slots Q (F0 m (pc + 1) ls rest)) : W p l e R s m args below meth c H locs cells slots Q (F0 m pc ls (.int x :: .int i :: .ref a :: rest)) := by
  subst hw
  exact va_iast C.1 C.2.1 C.2.2.2.2.2.2.2.1 S.1 S.2.1 S.2.2 q0 0 ha rfl hin hdg (fun H1 locs1 h1 h2 h3 => kk H1 locs1 ⟨h1, h2, h3⟩)
theorem x_zast (C : Cx p s m args meth c cc ret nL own G A) (S : St G A s.heap H locs ws) (q0 : Nat) {n : Nat} {f : Nat → Int32} (ha : ws[q0]? = some (a, aZ G n f)) {i x : Int32} (hin : vp_in i n) (hw : ws.set q0 (a, aZ G n (upd f i.toNatClampNeg (vp_nar .boolean x))) = ws') (hdg : decode cc pc = .ok (.bastore, 1)) (kk : ∀ (H1 : Heap) (locs1 : List Loc), St G A s.heap H1 locs1 ws' → W p l e R s m args below meth c H1 locs1 cells slots Q (F0 m (pc + 1) ls rest)) : W p l e R s m args below meth c H locs cells slots Q (F0 m pc ls (.int x :: .int i :: .ref a :: rest)) := by
  subst hw
  exact va_zast C.1 C.2.1 C.2.2.2.2.2.2.2.1 S.1 S.2.1 S.2.2 q0 1 ha rfl hin hdg (fun H1 locs1 h1 h2 h3 => kk H1 locs1 ⟨h1, h2, h3⟩)
theorem x_last (C : Cx p s m args meth c cc ret nL own G A) (S : St G A s.heap H locs ws) (q0 : Nat) {n : Nat} {f : Nat → Int64} (ha : ws[q0]? = some (a, aJ G n f)) {i : Int32} {x : Int64} (hin : vp_in i n) (hw : ws.set q0 (a, aJ G n (vp_updL f i.toNatClampNeg x)) = ws') (hdg : decode cc pc = .ok (.lastore, 1)) (kk : ∀ (H1 : Heap) (locs1 : List Loc), St G A s.heap H1 locs1 ws' → W p l e R s m args below meth c H1 locs1 cells slots Q (F0 m (pc + 1) ls rest)) : W p l e R s m args below meth c H locs cells slots Q (F0 m pc ls (.long x :: .int i :: .ref a :: rest)) := by
  subst hw
  exact va_last C.1 C.2.1 C.2.2.2.2.2.2.2.1 S.1 S.2.1 S.2.2 q0 2 ha rfl hin hdg (fun H1 locs1 h1 h2 h3 => kk H1 locs1 ⟨h1, h2, h3⟩)
theorem x_lenI (C : Cx p s m args meth c cc ret nL own G A) (S : St G A s.heap H locs ws) (q0 : Nat) {n : Nat} {f : Nat → Int32} (ha : ws[q0]? = some (a, aI G n f)) {v : Int32} (hv : Int32.ofNat n = v) (hdg : decode cc pc = .ok (.arraylength, 1)) (kk : W p l e R s m args below meth c H locs cells slots Q (F0 m (pc + 1) ls (.int v :: rest))) : W p l e R s m args below meth c H locs cells slots Q (F0 m pc ls (.ref a :: rest)) :=
  va_alen C.1 C.2.1 C.2.2.2.2.2.2.2.1 S.1 q0 0 ha rfl hv hdg kk
theorem x_lenZ (C : Cx p s m args meth c cc ret nL own G A) (S : St G A s.heap H locs ws) (q0 : Nat) {n : Nat} {f : Nat → Int32} (ha : ws[q0]? = some (a, aZ G n f)) {v : Int32} (hv : Int32.ofNat n = v) (hdg : decode cc pc = .ok (.arraylength, 1)) (kk : W p l e R s m args below meth c H locs cells slots Q (F0 m (pc + 1) ls (.int v :: rest))) : W p l e R s m args below meth c H locs cells slots Q (F0 m pc ls (.ref a :: rest)) :=
  va_alen C.1 C.2.1 C.2.2.2.2.2.2.2.1 S.1 q0 1 ha rfl hv hdg kk
theorem x_lenJ (C : Cx p s m args meth c cc ret nL own G A) (S : St G A s.heap H locs ws) (q0 : Nat) {n : Nat} {f : Nat → Int64} (ha : ws[q0]? = some (a, aJ G n f)) {v : Int32} (hv : Int32.ofNat n = v) (hdg : decode cc pc = .ok (.arraylength, 1)) (kk : W p l e R s m args below meth c H locs cells slots Q (F0 m (pc + 1) ls (.int v :: rest))) : W p l e R s m args below meth c H locs cells slots Q (F0 m pc ls (.ref a :: rest)) :=
  va_alen C.1 C.2.1 C.2.2.2.2.2.2.2.1 S.1 q0 2 ha rfl hv hdg kk
theorem x_tab (C : Cx p s m args meth c cc ret nL own G A) (S : St G A s.heap H locs ws) (k : Nat) (hk : k < 3) {index : Nat} (hl : Cond.fieldLink own index RX7 (tabN k) "[I" ∈ WU) (hdg : decode cc pc = .ok (.getstatic index, 3)) (kk : W p l e R s m args below meth c H locs cells slots Q (F0 m (pc + 3) ls (.ref (tabA G k) :: rest))) : W p l e R s m args below meth c H locs cells slots Q (F0 m pc ls rest) := by
  obtain ⟨hx, hb, hr, hml, hown, hts, hlk, hK, hSx, hA, hN⟩ := C
  exact va_gets hx hb (hSx k hk).1 S.2.2 hown (hts _ hl) (fun _ h => h) hdg kk
theorem x_tabN (C : Cx p s m args meth c cc ret nL own G A) (S : St G A s.heap H locs ws) (k : Nat) (hk : k < 3) {index : Nat} (hl : (own, index, tabN k) ∈ nstF) (hdg : decode cc pc = .ok (.getstatic index, 3)) (kk : W p l e R s m args below meth c H locs cells slots Q (F0 m (pc + 3) ls (.ref (tabA G k) :: rest))) : W p l e R s m args below meth c H locs cells slots Q (F0 m pc ls rest) := by
  obtain ⟨hx, hb, hr, hml, hown, hts, hlk, hK, hSx, hA, hN⟩ := C
  exact va_getsN (host := RX7) hx hb (hSx k hk).1 S.2.2 hown (va_Nw.use rfl (hN.2 _ hl)) (fun _ h => h) hdg kk
theorem x_iret {v : Int32} (C : Cx p s m args meth c cc (some .int) nL own G A) (S : St G A s.heap H locs ws) (hdg : decode cc pc = .ok (.ireturn, 1)) : W p l e R s m args below meth c H locs 0 0 (QI G below args s A v ws) (F0 m pc ls [.int v]) := by
  obtain ⟨hx, hb, hr, hml, hown, hts, hlk, hK, hSx, hA, hN⟩ := C
  exact W.iret (v := v) hx hb hr (fun t ht hW => ⟨⟨v, (), rfl, rfl, by have h9 := S.1; rw [← ht] at h9; exact h9⟩, S.2.2.F ht⟩) S.2.2.2.2 hdg
theorem nar_z {v : Int32} (h : v = 0 ∨ v = 1) : narrow .boolean (.int v) = .int v := by
  rcases h with rfl | rfl
  · exact narrow_b0
  · exact narrow_b1
theorem fit_z {v : Int32} (h : v = 0 ∨ v = 1) : fits .boolean (.int v) = true := by
  rcases h with rfl | rfl <;> rfl
theorem x_zret {v : Int32} (hv : v = 0 ∨ v = 1) (C : Cx p s m args meth c cc (some .boolean) nL own G A) (S : St G A s.heap H locs ws) (hdg : decode cc pc = .ok (.ireturn, 1)) : W p l e R s m args below meth c H locs 0 0 (QI G below args s A v ws) (F0 m pc ls [.int v]) := by
  obtain ⟨hx, hb, hr, hml, hown, hts, hlk, hK, hSx, hA, hN⟩ := C
  exact W.zret (v := v) hx hb hr (nar_z hv) (fun t ht hW => ⟨⟨v, (), rfl, rfl, by have h9 := S.1; rw [← ht] at h9; exact h9⟩, S.2.2.F ht⟩) S.2.2.2.2 hdg
theorem x_lret {v : Int64} (C : Cx p s m args meth c cc (some .long) nL own G A) (S : St G A s.heap H locs ws) (hdg : decode cc pc = .ok (.lreturn, 1)) : W p l e R s m args below meth c H locs 0 0 (QL G below args s A v ws) (F0 m pc ls [.long v]) := by
  obtain ⟨hx, hb, hr, hml, hown, hts, hlk, hK, hSx, hA, hN⟩ := C
  exact W.lret (v := v) hx hb hr (fun t ht hW => ⟨⟨v, (), rfl, rfl, by have h9 := S.1; rw [← ht] at h9; exact h9⟩, S.2.2.F ht⟩) S.2.2.2.2 hdg
theorem x_vret (C : Cx p s m args meth c cc none nL own G A) (S : St G A s.heap H locs ws) (hdg : decode cc pc = .ok (.return_, 1)) : W p l e R s m args below meth c H locs 0 0 (QV G below args s A ws) (F0 m pc ls []) := by
  obtain ⟨hx, hb, hr, hml, hown, hts, hlk, hK, hSx, hA, hN⟩ := C
  exact W.vret hx hb hr (fun t ht hW => ⟨⟨(), rfl, trivial, by have h9 := S.1; rw [← ht] at h9; exact h9⟩, S.2.2.F ht⟩) S.2.2.2.2 hdg
/-- Java's abs, max, min -/
def mabs (x : Int32) : Int32 := if 0 ≤ x then x else 0 - x
def mmax (x y : Int32) : Int32 := if x < y then y else x
def mmin (x y : Int32) : Int32 := if y < x then y else x
theorem x_abs (C : Cx p s m args meth c cc ret nL own G A) (hls : ls.size = nL) {index : Nat} (h1 : Cond.methodLink own index Lib.Math.abs.name ∈ WU) (h2 : Cond.static Lib.Math.abs.name ∈ WU) (h3 : Cond.initialized "java/lang/Math" ∈ WU) (h4 : Cond.code Lib.Math.abs.name Lib.Math.abs.code 1 (some .int) ∈ WU) (hf : 1 ≤ R.frames) (hlo : (rest.map fun v => v.category).sum + 13 ≤ R.locals) {x : Int32} (hdg : decode cc pc = .ok (.invokestatic index, 3)) (kk : W p l e R s m args below meth c H locs 0 0 Q (F0 m (pc + 3) ls (.int (mabs x) :: rest))) : W p l e R s m args below meth c H locs 0 0 Q (F0 m pc ls (.int x :: rest)) := by
  obtain ⟨hx, hb, hr, hml, hown, hts, hlk, hK, hSx, hA, hN⟩ := C
  exact va_mabs hx hb (hml.trans hls.symm) hown (hts _ h1) (hts _ h2) (hts _ h3) (hts _ h4) hf hlo (Nat.zero_le _) (Nat.zero_le _) hdg kk
theorem x_max (C : Cx p s m args meth c cc ret nL own G A) (hls : ls.size = nL) {index : Nat} (h1 : Cond.methodLink own index Lib.Math.max.name ∈ WU) (h2 : Cond.static Lib.Math.max.name ∈ WU) (h3 : Cond.initialized "java/lang/Math" ∈ WU) (h4 : Cond.code Lib.Math.max.name Lib.Math.max.code 2 (some .int) ∈ WU) (hf : 1 ≤ R.frames) (hlo : (rest.map fun v => v.category).sum + 13 ≤ R.locals) {x y : Int32} (hdg : decode cc pc = .ok (.invokestatic index, 3)) (kk : W p l e R s m args below meth c H locs 0 0 Q (F0 m (pc + 3) ls (.int (mmax x y) :: rest))) : W p l e R s m args below meth c H locs 0 0 Q (F0 m pc ls (.int y :: .int x :: rest)) := by
  obtain ⟨hx, hb, hr, hml, hown, hts, hlk, hK, hSx, hA, hN⟩ := C
  exact va_mmax hx hb (hml.trans hls.symm) hown (hts _ h1) (hts _ h2) (hts _ h3) (hts _ h4) hf hlo (Nat.zero_le _) (Nat.zero_le _) hdg kk
theorem x_min (C : Cx p s m args meth c cc ret nL own G A) (hls : ls.size = nL) {index : Nat} (h1 : Cond.methodLink own index Lib.Math.min.name ∈ WU) (h2 : Cond.static Lib.Math.min.name ∈ WU) (h3 : Cond.initialized "java/lang/Math" ∈ WU) (h4 : Cond.code Lib.Math.min.name Lib.Math.min.code 2 (some .int) ∈ WU) (hf : 1 ≤ R.frames) (hlo : (rest.map fun v => v.category).sum + 13 ≤ R.locals) {x y : Int32} (hdg : decode cc pc = .ok (.invokestatic index, 3)) (kk : W p l e R s m args below meth c H locs 0 0 Q (F0 m (pc + 3) ls (.int (mmin x y) :: rest))) : W p l e R s m args below meth c H locs 0 0 Q (F0 m pc ls (.int y :: .int x :: rest)) := by
  obtain ⟨hx, hb, hr, hml, hown, hts, hlk, hK, hSx, hA, hN⟩ := C
  exact va_mmin hx hb (hml.trans hls.symm) hown (hts _ h1) (hts _ h2) (hts _ h3) (hts _ h4) hf hlo (Nat.zero_le _) (Nat.zero_le _) hdg kk
theorem x_cpyl (C : Cx p s m args meth c cc ret nL own G A) (S : St G A s.heap H locs ws) (hls : ls.size = nL) {index : Nat} (h1 : Cond.methodLink own index arraycopyName ∈ WU) (h2 : Cond.native arraycopyName ∈ WU) (h3 : Cond.static arraycopyName ∈ WU) (h4 : Cond.initialized "java/lang/System" ∈ WU) (q0 : Nat) {n0 : Nat} {f : Nat → Int64} (ha : ws[q0]? = some (a, aJ G n0 f)) {sp dp n : Int32} (hg : ¬ sp < 0 ∧ ¬ dp < 0 ∧ ¬ n < 0 ∧ sp.toNatClampNeg + n.toNatClampNeg ≤ n0 ∧ dp.toNatClampNeg + n.toNatClampNeg ≤ n0) (hf : 1 ≤ R.frames) (hlo : (rest.map fun v => v.category).sum + (nativeFrameWords "java/lang/System" "arraycopy" 5 + 11) ≤ R.locals) (hw : ws.set q0 (a, aJ G n0 (va_cpy f f sp.toNatClampNeg dp.toNatClampNeg n.toNatClampNeg)) = ws') (hdg : decode cc pc = .ok (.invokestatic index, 3)) (kk : ∀ (H1 : Heap) (locs1 : List Loc), St G A s.heap H1 locs1 ws' → W p l e R s m args below meth c H1 locs1 cells slots Q (F0 m (pc + 3) ls rest)) : W p l e R s m args below meth c H locs cells slots Q (F0 m pc ls (.int n :: .int dp :: .ref a :: .int sp :: .ref a :: rest)) := by
  obtain ⟨hx, hb, hr, hml, hown, hts, hlk, hK, hSx, hA, hN⟩ := C
  subst hw
  exact va_copyl hx hb (hml.trans hls.symm) hown (hts _ h1) (hts _ h2) (hts _ h3) (hts _ h4) hK S.1 S.2.1 S.2.2 q0 q0 2 2 ha ha rfl rfl rfl hg.1 hg.2.1 hg.2.2.1 hg.2.2.2.1 hg.2.2.2.2 (fun _ _ => rfl) hf hlo hdg (fun H1 locs1 h1 h2 h3 => kk H1 locs1 ⟨h1, h2, h3⟩)
section CALLS
variable {y : MethodName} {bytes : ByteArray} {maxL : Nat} {ret' : Option FieldType} {kw : Cond} {rm' : Room} {As : List Value} {b : Nat} {wc w1 : va_W} {index n ci : Nat} {Cn host : String} {T : u_T} {N : Nat} {fs : List Value} {isC : List Nat}
theorem x_vI {r : Int32} (C : Cx p s m args meth c cc ret nL own G A) (S : St G A s.heap H locs ws) (hM : CI l G y kw rm' (.ref b :: As) wc r w1) (cw : CallW R s args own Cn index y bytes maxL ret' (kw :: WU) rm' 0 0 n) (hci : vwCl[ci]? = some (Cn, T, N)) (q0 : Nat) (hq : ws[q0]? = some (b, .inr (ci, fs))) (hC : isC.map (fun i => ws[i]?) = wc.map some) (hd : va_nd isC = true) (mk : List (Option Nat)) (hmk : okm mk isC = true) (hset : mrg mk ws w1 = ws') (hadr : w1.map (fun q => q.1) = wc.map (fun q => q.1)) (hn : As.length = n) (hls : ls.size = nL) (hst : st0 = As.reverse ++ .ref b :: rest) (hro : (rest.map fun v => v.category).sum ≤ 8) (hdg : decode cc pc = .ok (.invokevirtual index, 3)) (kk : ∀ (H1 : Heap) (locs1 : List Loc), St G A s.heap H1 locs1 ws' → W p l e R s m args below meth c H1 locs1 0 0 Q (F0 m (pc + 3) ls (.int r :: rest))) : W p l e R s m args below meth c H locs 0 0 Q (F0 m pc ls st0) := by
  obtain ⟨hx, hb, hr, hml, hown, hts, hlk, hK, hSx, hA, hN⟩ := C
  have hF := va_free S.2.1 S.2.2 hA isC hC
  refine va_calli (va_runV (As := As) (rest := rest) ⟨hx, hb, hml, hown, hts⟩ (hM H.size) cw ⟨PreG.blind, va_recv hK S.1 hci hq, fun U hU hW => ⟨rfl, St.pre hK hSx hA hN S hC hd U hU hW⟩⟩ rfl hn hls hst (lv_room hro) hdg ⟨Nat.zero_le _, Nat.zero_le _⟩) S.2.2 (fun q _ h => hF q h) hF (fun r1 u t H1 locs1 ht hvm hw hB hz1 hk1 hS => ?_)
  subst hw
  exact kk H1 locs1 (S.put hC hmk hset hadr (by rw [← ht]; exact hB) hk1 hS)
theorem x_vL {r : Int64} (C : Cx p s m args meth c cc ret nL own G A) (S : St G A s.heap H locs ws) (hM : CL l G y kw rm' (.ref b :: As) wc r w1) (cw : CallW R s args own Cn index y bytes maxL ret' (kw :: WU) rm' 0 0 n) (hci : vwCl[ci]? = some (Cn, T, N)) (q0 : Nat) (hq : ws[q0]? = some (b, .inr (ci, fs))) (hC : isC.map (fun i => ws[i]?) = wc.map some) (hd : va_nd isC = true) (mk : List (Option Nat)) (hmk : okm mk isC = true) (hset : mrg mk ws w1 = ws') (hadr : w1.map (fun q => q.1) = wc.map (fun q => q.1)) (hn : As.length = n) (hls : ls.size = nL) (hst : st0 = As.reverse ++ .ref b :: rest) (hro : (rest.map fun v => v.category).sum ≤ 8) (hdg : decode cc pc = .ok (.invokevirtual index, 3)) (kk : ∀ (H1 : Heap) (locs1 : List Loc), St G A s.heap H1 locs1 ws' → W p l e R s m args below meth c H1 locs1 0 0 Q (F0 m (pc + 3) ls (.long r :: rest))) : W p l e R s m args below meth c H locs 0 0 Q (F0 m pc ls st0) := by
  obtain ⟨hx, hb, hr, hml, hown, hts, hlk, hK, hSx, hA, hN⟩ := C
  have hF := va_free S.2.1 S.2.2 hA isC hC
  refine va_calll (va_runV (As := As) (rest := rest) ⟨hx, hb, hml, hown, hts⟩ (hM H.size) cw ⟨PreG.blind, va_recv hK S.1 hci hq, fun U hU hW => ⟨rfl, St.pre hK hSx hA hN S hC hd U hU hW⟩⟩ rfl hn hls hst (lv_room hro) hdg ⟨Nat.zero_le _, Nat.zero_le _⟩) S.2.2 (fun q _ h => hF q h) hF (fun r1 u t H1 locs1 ht hvm hw hB hz1 hk1 hS => ?_)
  subst hw
  exact kk H1 locs1 (S.put hC hmk hset hadr (by rw [← ht]; exact hB) hk1 hS)
theorem x_vV (C : Cx p s m args meth c cc ret nL own G A) (S : St G A s.heap H locs ws) (hM : CV l G y kw rm' (.ref b :: As) wc w1) (cw : CallW R s args own Cn index y bytes maxL ret' (kw :: WU) rm' 0 0 n) (hci : vwCl[ci]? = some (Cn, T, N)) (q0 : Nat) (hq : ws[q0]? = some (b, .inr (ci, fs))) (hC : isC.map (fun i => ws[i]?) = wc.map some) (hd : va_nd isC = true) (mk : List (Option Nat)) (hmk : okm mk isC = true) (hset : mrg mk ws w1 = ws') (hadr : w1.map (fun q => q.1) = wc.map (fun q => q.1)) (hn : As.length = n) (hls : ls.size = nL) (hst : st0 = As.reverse ++ .ref b :: rest) (hro : (rest.map fun v => v.category).sum ≤ 8) (hdg : decode cc pc = .ok (.invokevirtual index, 3)) (kk : ∀ (H1 : Heap) (locs1 : List Loc), St G A s.heap H1 locs1 ws' → W p l e R s m args below meth c H1 locs1 0 0 Q (F0 m (pc + 3) ls rest)) : W p l e R s m args below meth c H locs 0 0 Q (F0 m pc ls st0) := by
  obtain ⟨hx, hb, hr, hml, hown, hts, hlk, hK, hSx, hA, hN⟩ := C
  have hF := va_free S.2.1 S.2.2 hA isC hC
  refine va_callv (va_runV (As := As) (rest := rest) ⟨hx, hb, hml, hown, hts⟩ (hM H.size) cw ⟨PreG.blind, va_recv hK S.1 hci hq, fun U hU hW => ⟨rfl, St.pre hK hSx hA hN S hC hd U hU hW⟩⟩ rfl hn hls hst (lv_room hro) hdg ⟨Nat.zero_le _, Nat.zero_le _⟩) S.2.2 (fun q _ h => hF q h) hF (fun u t H1 locs1 ht hvm hw hB hz1 hk1 hS => ?_)
  exact kk H1 locs1 (S.put hC hmk hset hadr (by rw [← ht]; exact hB) hk1 hS)
theorem x_sI {r : Int32} (C : Cx p s m args meth c cc ret nL own G A) (S : St G A s.heap H locs ws) (hM : CI l G y kw rm' As wc r w1) (cw : CallB R s args own index y bytes maxL ret' (kw :: WU) rm' 0 0 n ∧ (Cond.static y).before args s = true) (hC : isC.map (fun i => ws[i]?) = wc.map some) (hd : va_nd isC = true) (mk : List (Option Nat)) (hmk : okm mk isC = true) (hset : mrg mk ws w1 = ws') (hadr : w1.map (fun q => q.1) = wc.map (fun q => q.1)) (hn : As.length = n) (hls : ls.size = nL) (hst : st0 = As.reverse ++ rest) (hro : (rest.map fun v => v.category).sum ≤ 8) (hdg : decode cc pc = .ok (.invokestatic index, 3)) (kk : ∀ (H1 : Heap) (locs1 : List Loc), St G A s.heap H1 locs1 ws' → W p l e R s m args below meth c H1 locs1 0 0 Q (F0 m (pc + 3) ls (.int r :: rest))) : W p l e R s m args below meth c H locs 0 0 Q (F0 m pc ls st0) := by
  obtain ⟨hx, hb, hr, hml, hown, hts, hlk, hK, hSx, hA, hN⟩ := C
  have hF := va_free S.2.1 S.2.2 hA isC hC
  refine va_calli (va_runS (As := As) (rest := rest) ⟨hx, hb, hml, hown, hts⟩ (hM H.size) cw ⟨PreG.blind, fun U hU hW => ⟨rfl, St.pre hK hSx hA hN S hC hd U hU hW⟩⟩ rfl hn hls hst (lv_room hro) hdg ⟨Nat.zero_le _, Nat.zero_le _⟩) S.2.2 (fun q _ h => hF q h) hF (fun r1 u t H1 locs1 ht hvm hw hB hz1 hk1 hS => ?_)
  subst hw
  exact kk H1 locs1 (S.put hC hmk hset hadr (by rw [← ht]; exact hB) hk1 hS)
theorem x_sL {r : Int64} (C : Cx p s m args meth c cc ret nL own G A) (S : St G A s.heap H locs ws) (hM : CL l G y kw rm' As wc r w1) (cw : CallB R s args own index y bytes maxL ret' (kw :: WU) rm' 0 0 n ∧ (Cond.static y).before args s = true) (hC : isC.map (fun i => ws[i]?) = wc.map some) (hd : va_nd isC = true) (mk : List (Option Nat)) (hmk : okm mk isC = true) (hset : mrg mk ws w1 = ws') (hadr : w1.map (fun q => q.1) = wc.map (fun q => q.1)) (hn : As.length = n) (hls : ls.size = nL) (hst : st0 = As.reverse ++ rest) (hro : (rest.map fun v => v.category).sum ≤ 8) (hdg : decode cc pc = .ok (.invokestatic index, 3)) (kk : ∀ (H1 : Heap) (locs1 : List Loc), St G A s.heap H1 locs1 ws' → W p l e R s m args below meth c H1 locs1 0 0 Q (F0 m (pc + 3) ls (.long r :: rest))) : W p l e R s m args below meth c H locs 0 0 Q (F0 m pc ls st0) := by
  obtain ⟨hx, hb, hr, hml, hown, hts, hlk, hK, hSx, hA, hN⟩ := C
  have hF := va_free S.2.1 S.2.2 hA isC hC
  refine va_calll (va_runS (As := As) (rest := rest) ⟨hx, hb, hml, hown, hts⟩ (hM H.size) cw ⟨PreG.blind, fun U hU hW => ⟨rfl, St.pre hK hSx hA hN S hC hd U hU hW⟩⟩ rfl hn hls hst (lv_room hro) hdg ⟨Nat.zero_le _, Nat.zero_le _⟩) S.2.2 (fun q _ h => hF q h) hF (fun r1 u t H1 locs1 ht hvm hw hB hz1 hk1 hS => ?_)
  subst hw
  exact kk H1 locs1 (S.put hC hmk hset hadr (by rw [← ht]; exact hB) hk1 hS)
theorem x_sV (C : Cx p s m args meth c cc ret nL own G A) (S : St G A s.heap H locs ws) (hM : CV l G y kw rm' As wc w1) (cw : CallB R s args own index y bytes maxL ret' (kw :: WU) rm' 0 0 n ∧ (Cond.static y).before args s = true) (hC : isC.map (fun i => ws[i]?) = wc.map some) (hd : va_nd isC = true) (mk : List (Option Nat)) (hmk : okm mk isC = true) (hset : mrg mk ws w1 = ws') (hadr : w1.map (fun q => q.1) = wc.map (fun q => q.1)) (hn : As.length = n) (hls : ls.size = nL) (hst : st0 = As.reverse ++ rest) (hro : (rest.map fun v => v.category).sum ≤ 8) (hdg : decode cc pc = .ok (.invokestatic index, 3)) (kk : ∀ (H1 : Heap) (locs1 : List Loc), St G A s.heap H1 locs1 ws' → W p l e R s m args below meth c H1 locs1 0 0 Q (F0 m (pc + 3) ls rest)) : W p l e R s m args below meth c H locs 0 0 Q (F0 m pc ls st0) := by
  obtain ⟨hx, hb, hr, hml, hown, hts, hlk, hK, hSx, hA, hN⟩ := C
  have hF := va_free S.2.1 S.2.2 hA isC hC
  refine va_callv (va_runS (As := As) (rest := rest) ⟨hx, hb, hml, hown, hts⟩ (hM H.size) cw ⟨PreG.blind, fun U hU hW => ⟨rfl, St.pre hK hSx hA hN S hC hd U hU hW⟩⟩ rfl hn hls hst (lv_room hro) hdg ⟨Nat.zero_le _, Nat.zero_le _⟩) S.2.2 (fun q _ h => hF q h) hF (fun u t H1 locs1 ht hvm hw hB hz1 hk1 hS => ?_)
  exact kk H1 locs1 (S.put hC hmk hset hadr (by rw [← ht]; exact hB) hk1 hS)
theorem x_nI {r : Int32} (C : Cx p s m args meth c cc ret nL own G A) (S : St G A s.heap H locs ws) (hM : CI l G y kw rm' As wc r w1) (cw : va_CN R s args own index y host bytes maxL ret' (kw :: WU) rm' 0 0 n ∧ (Cond.static y).before args s = true ∧ True) (hC : isC.map (fun i => ws[i]?) = wc.map some) (hd : va_nd isC = true) (mk : List (Option Nat)) (hmk : okm mk isC = true) (hset : mrg mk ws w1 = ws') (hadr : w1.map (fun q => q.1) = wc.map (fun q => q.1)) (hn : As.length = n) (hls : ls.size = nL) (hst : st0 = As.reverse ++ rest) (hro : (rest.map fun v => v.category).sum ≤ 8) (hdg : decode cc pc = .ok (.invokestatic index, 3)) (kk : ∀ (H1 : Heap) (locs1 : List Loc), St G A s.heap H1 locs1 ws' → W p l e R s m args below meth c H1 locs1 0 0 Q (F0 m (pc + 3) ls (.int r :: rest))) : W p l e R s m args below meth c H locs 0 0 Q (F0 m pc ls st0) := by
  obtain ⟨hx, hb, hr, hml, hown, hts, hlk, hK, hSx, hA, hN⟩ := C
  have hF := va_free S.2.1 S.2.2 hA isC hC
  refine va_calli (va_runSN (As := As) (rest := rest) ⟨hx, hb, hml, hown, hts⟩ (hM H.size) cw ⟨PreG.blind, fun U hU hW => ⟨rfl, St.pre hK hSx hA hN S hC hd U hU hW⟩⟩ rfl hn hls hst (lv_room hro) hdg ⟨Nat.zero_le _, Nat.zero_le _⟩) S.2.2 (fun q _ h => hF q h) hF (fun r1 u t H1 locs1 ht hvm hw hB hz1 hk1 hS => ?_)
  subst hw
  exact kk H1 locs1 (S.put hC hmk hset hadr (by rw [← ht]; exact hB) hk1 hS)
theorem x_nV (C : Cx p s m args meth c cc ret nL own G A) (S : St G A s.heap H locs ws) (hM : CV l G y kw rm' As wc w1) (cw : va_CN R s args own index y host bytes maxL ret' (kw :: WU) rm' 0 0 n ∧ (Cond.static y).before args s = true ∧ True) (hC : isC.map (fun i => ws[i]?) = wc.map some) (hd : va_nd isC = true) (mk : List (Option Nat)) (hmk : okm mk isC = true) (hset : mrg mk ws w1 = ws') (hadr : w1.map (fun q => q.1) = wc.map (fun q => q.1)) (hn : As.length = n) (hls : ls.size = nL) (hst : st0 = As.reverse ++ rest) (hro : (rest.map fun v => v.category).sum ≤ 8) (hdg : decode cc pc = .ok (.invokestatic index, 3)) (kk : ∀ (H1 : Heap) (locs1 : List Loc), St G A s.heap H1 locs1 ws' → W p l e R s m args below meth c H1 locs1 0 0 Q (F0 m (pc + 3) ls rest)) : W p l e R s m args below meth c H locs 0 0 Q (F0 m pc ls st0) := by
  obtain ⟨hx, hb, hr, hml, hown, hts, hlk, hK, hSx, hA, hN⟩ := C
  have hF := va_free S.2.1 S.2.2 hA isC hC
  refine va_callv (va_runSN (As := As) (rest := rest) ⟨hx, hb, hml, hown, hts⟩ (hM H.size) cw ⟨PreG.blind, fun U hU hW => ⟨rfl, St.pre hK hSx hA hN S hC hd U hU hW⟩⟩ rfl hn hls hst (lv_room hro) hdg ⟨Nat.zero_le _, Nat.zero_le _⟩) S.2.2 (fun q _ h => hF q h) hF (fun u t H1 locs1 ht hvm hw hB hz1 hk1 hS => ?_)
  exact kk H1 locs1 (S.put hC hmk hset hadr (by rw [← ht]; exact hB) hk1 hS)
end CALLS
end GB
section ENTRY
variable {l : Launch} {G : GE} {y : MethodName} {rm : Room} {as : List Value} {w0 w1 : va_W} {cc : ByteArray} {maxL : Nat} {ret : Option FieldType}
theorem en_W {Qc : (Nat → Prop) → Array Value → State → Outcome → State → Prop} (hy : plainName y.cls = true) (hn : (lg_sl as).length ≤ maxL) (body : ∀ (p : Program) (e : Env) (s : State) (m : MethodId) (args : Array Value) (below : List Frame) (meth : Method) (c : Code) (A : Nat → Prop) (ls : Array Slot), Cx p s m args meth c cc ret maxL y.cls G A → St G A s.heap s.heap [] w0 → lv_has ls maxL (lv_args 0 as) → W p l e rm s m args below meth c s.heap [] 0 0 (MQ below (Qc A) args s 0 0 A) (F0 m 0 ls [])) (sz : Nat) : Met l y (Cond.code y cc maxL ret :: WU) rm (va_Pc as (PreG G w0 sz)) (Qc (va_A w0 sz)) 0 0 (va_A w0 sz) := by
  refine Met.ofW (cc := cc) (maxL := maxL) (ret := ret) hy rfl ?_
  intro p e s m args below meth c s₁ B hml hv
  obtain ⟨rfl, hsz, hP, hK, hD0, hSx, hNx⟩ := hv
  subst hsz
  have hl := lv_entry as hn
  rw [lg_entry_eq]
  have hts := atoms_spec (ws := Cond.code y cc maxL ret :: WU) B.pre
  exact body p e s m _ below meth c _ _ ⟨B.exec, B.bytes, B.returns, hml, findClass_of_methodNamed B.named, fun w h => hts w (List.mem_cons_of_mem _ h), B.notSynchronized, hK, hSx, fun q h => Or.inr h, hNx⟩ ⟨hP, hD0.self, va_S.rf⟩ hl
theorem en_I {r : Int32} (hy : plainName y.cls = true) (hn : (lg_sl as).length ≤ maxL) (body : ∀ (p : Program) (e : Env) (s : State) (m : MethodId) (args : Array Value) (below : List Frame) (meth : Method) (c : Code) (A : Nat → Prop) (ls : Array Slot), Cx p s m args meth c cc ret maxL y.cls G A → St G A s.heap s.heap [] w0 → lv_has ls maxL (lv_args 0 as) → W p l e rm s m args below meth c s.heap [] 0 0 (QI G below args s A r w1) (F0 m 0 ls [])) : CI l G y (Cond.code y cc maxL ret) rm as w0 r w1 := fun sz => en_W (Qc := PQi G r w1) hy hn body sz
theorem en_L {r : Int64} (hy : plainName y.cls = true) (hn : (lg_sl as).length ≤ maxL) (body : ∀ (p : Program) (e : Env) (s : State) (m : MethodId) (args : Array Value) (below : List Frame) (meth : Method) (c : Code) (A : Nat → Prop) (ls : Array Slot), Cx p s m args meth c cc ret maxL y.cls G A → St G A s.heap s.heap [] w0 → lv_has ls maxL (lv_args 0 as) → W p l e rm s m args below meth c s.heap [] 0 0 (QL G below args s A r w1) (F0 m 0 ls [])) : CL l G y (Cond.code y cc maxL ret) rm as w0 r w1 := fun sz => en_W (Qc := PQl G r w1) hy hn body sz
theorem en_V (hy : plainName y.cls = true) (hn : (lg_sl as).length ≤ maxL) (body : ∀ (p : Program) (e : Env) (s : State) (m : MethodId) (args : Array Value) (below : List Frame) (meth : Method) (c : Code) (A : Nat → Prop) (ls : Array Slot), Cx p s m args meth c cc ret maxL y.cls G A → St G A s.heap s.heap [] w0 → lv_has ls maxL (lv_args 0 as) → W p l e rm s m args below meth c s.heap [] 0 0 (QV G below args s A w1) (F0 m 0 ls [])) : CV l G y (Cond.code y cc maxL ret) rm as w0 w1 := fun sz => en_W (Qc := PQv G w1) hy hn body sz
end ENTRY
/-! words of a callee among the words of all -/
theorem gW {c : Cond} (h : c ∈ WU) : GoodIn WU (c :: WU) := fun w hw => by
  have hm : w ∈ WU := (List.mem_cons.mp hw).elim (fun e => e ▸ h) id
  exact ⟨hm, good_of_word (wu_all w hm)⟩
theorem gL {a : List Cond} (ha : ∀ w ∈ a, w ∈ WU) {b : List Cond} (hb : GoodIn WU b) : GoodIn WU (a ++ b) := fun w hw => (List.mem_append.mp hw).elim (fun h => ⟨ha w h, good_of_word (wu_all w (ha w h))⟩) (hb w)
theorem gV {own C : String} {idx : Nat} {y : MethodName} {c : Cond} (h1 : Cond.methodLink own idx y ∈ WU) (h2 : Cond.instanceMethod y ∈ WU) (h3 : Cond.selects C y y ∈ WU) (h4 : Cond.initialized C ∈ WU) (h5 : c ∈ WU) : GoodIn WU (wsV own idx C y (c :: WU)) := gL (List.forall_mem_cons.mpr ⟨h1, List.forall_mem_cons.mpr ⟨h2, List.forall_mem_cons.mpr ⟨h3, List.forall_mem_cons.mpr ⟨h4, fun _ h => absurd h List.not_mem_nil⟩⟩⟩⟩) (gW h5)
theorem gS {own : String} {idx : Nat} {y : MethodName} {c : Cond} (h1 : Cond.methodLink own idx y ∈ WU) (h2 : Cond.static y ∈ WU) (h3 : Cond.initialized y.cls ∈ WU) (h5 : c ∈ WU) : GoodIn WU (va_wsS own idx y (c :: WU)) := gL (List.forall_mem_cons.mpr ⟨h1, List.forall_mem_cons.mpr ⟨h2, List.forall_mem_cons.mpr ⟨h3, fun _ h => absurd h List.not_mem_nil⟩⟩⟩) (gW h5)
/-! words of the functions that the methods are -/
def gd {α : Type} (c : Prop) [Decidable c] (x : Option α) : Option α := if c then x else none
theorem gd_e {α : Type} {c : Prop} {d : Decidable c} {x : Option α} {r : α} (h : @gd α c d x = some r) : c ∧ x = some r := by
  unfold gd at h
  split at h
  · exact ⟨by assumption, h⟩
  · cases h
theorem gd_t {α : Type} {c : Prop} {d : Decidable c} {x : Option α} (h : c) : @gd α c d x = x := if_pos h
/-- an index is in a row -/
def gI {α : Type} (i : Int32) (n : Nat) (x : Option α) : Option α := if 0 ≤ i.toInt ∧ i.toInt < n then x else none
theorem gI_e {α : Type} {i : Int32} {n : Nat} {x : Option α} {r : α} (h : gI i n x = some r) : vp_in i n ∧ x = some r := by
  unfold gI at h
  split at h
  · exact ⟨vp_in_iff.mpr (by assumption), h⟩
  · cases h
theorem gI_t {α : Type} {i : Int32} {n : Nat} {x : Option α} (h : 0 ≤ i.toInt ∧ i.toInt < n) : gI i n x = x := if_pos h
theorem ifp {α : Type} {c : Prop} {d : Decidable c} {x y : α} {z : α} (h : c) (hf : (@ite α c d x y) = z) : x = z := by rw [if_pos h] at hf; exact hf
theorem ifn {α : Type} {c : Prop} {d : Decidable c} {x y : α} {z : α} (h : ¬ c) (hf : (@ite α c d x y) = z) : y = z := by rw [if_neg h] at hf; exact hf
theorem bd_e {α β : Type} {x : Option α} {f : α → Option β} {r : β} (h : x.bind f = some r) : ∃ q, x = some q ∧ f q = some r := Option.bind_eq_some_iff.mp h
/-- a loop: its body, given how it goes on from its head -/
def lp {σ ρ : Type} (F : (σ → Option ρ) → σ → Option ρ) : Nat → σ → Option ρ
  | 0, _ => none
  | n + 1, x => F (lp F n) x
theorem lp_ind {σ ρ : Type} {F : (σ → Option ρ) → σ → Option ρ} {r : ρ} {P : σ → Prop} (h : ∀ k : σ → Option ρ, (∀ x, k x = some r → P x) → ∀ x, F k x = some r → P x) : ∀ (n : Nat) (x : σ), lp F n x = some r → P x := by
  intro n
  induction n with
  | zero => intro x hf; cases hf
  | succ n ih => intro x hf; exact h _ ih x hf
def fu : Nat := 600
