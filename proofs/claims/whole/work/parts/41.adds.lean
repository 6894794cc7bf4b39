/-! B14: what a stop adds, in both -/
theorem absd {a c : Nat} (ha : a ≤ 63) (hc : c ≤ 63) : ∃ u, u ≤ 63 ∧ (if nI a ≤ nI c then nI c - nI a else nI a - nI c) = nI u := by
  by_cases h : a ≤ c
  · exact ⟨c - a, by omega, by rw [if_pos (nI_le h (by omega)), pk_sub h]⟩
  · exact ⟨a - c, by omega, by rw [if_neg (nI_ge (by omega) (by omega)), pk_sub (by omega)]⟩
theorem apv_form (me x y ax ay : Int32) : apv me x y ax ay = (b_X6_apart_33 (if x ≤ ax then ax - x else x - ax) (if y ≤ ay then ay - y else y - ay) me).getD 0 := by
  unfold apv f_X6_apart b_X6_apart_14
  split <;> split <;> rfl
theorem b33_nB (me : Int32) {u v : Nat} (hu : u ≤ 63) (hv : v ≤ 63) : nB 189 ((b_X6_apart_33 (nI u) (nI v) me).getD 0) := by
  have key : ∀ k, k ≤ 63 → nB 189 ((b_X6_apart_56 (nI u + nI v) (nI k) me).getD 0) := by
    intro k hk
    unfold b_X6_apart_56
    simp only [nI_add]
    split
    · exact ⟨u + v, by omega, rfl⟩
    · split
      · exact ⟨k, by omega, rfl⟩
      · exact ⟨u + v + k, by omega, rfl⟩
  unfold b_X6_apart_33
  split <;> first | exact key _ hu | exact key _ hv
theorem dist_nB {E : ES} (hB : GB E) {p q : Nat} (hp : isP (eN E) p) (hq : isP (eN E) q) : nB 189 (eD E p q) := by
  have hX := hB.2.2.2.1
  obtain ⟨a, ha, ea⟩ := hX p hp 0 (by decide)
  obtain ⟨b, hb, eb⟩ := hX p hp 1 (by decide)
  obtain ⟨c, hc, ec⟩ := hX q hq 0 (by decide)
  obtain ⟨d, hd, ed⟩ := hX q hq 1 (by decide)
  obtain ⟨u, hu, eu⟩ := absd ha hc
  obtain ⟨v, hv, ev⟩ := absd hb hd
  show nB 189 (apv _ _ _ _ _)
  rw [apv_form, ea, eb, ec, ed, eu, ev]
  exact b33_nB _ hu hv
def adC (E : ES) (p r k : Nat) : Int32 := dtr (eD E) (pv_ (eL E r) k) p (at_ (eL E r) k) + if (eL E r).length = 0 then eX E else nI 0
theorem rg4 (w a b c f n u : Int32) (h : u + c = a + b + f + n) : a + b - c + f = u - n := by grind
theorem adC_rng {E : ES} (hB : GB E) {p r k : Nat} (hp : p < eN E) (hr : r < 4) : ∃ z, z ≤ 666 ∧ adC E p r k = nI z - nI 189 := by
  obtain ⟨a, ha, ea⟩ := dist_nB hB (pv_P (hB.mem hr) k) (Or.inl hp)
  obtain ⟨b, hb, eb⟩ := dist_nB hB (Or.inl hp) (at_P (hB.mem hr) k)
  obtain ⟨c, hc, ec⟩ := dist_nB hB (pv_P (hB.mem hr) k) (at_P (hB.mem hr) k)
  obtain ⟨f, hf, ef⟩ : nB 99 (if (eL E r).length = 0 then eX E else nI 0) := by
    split
    · exact hB.2.2.1
    · exact ⟨0, by omega, rfl⟩
  refine ⟨a + b + f + 189 - c, by omega, ?_⟩
  unfold adC dtr
  rw [ea, eb, ec, ef]
  refine rg4 0 _ _ _ _ _ _ ?_
  rw [nI_add, nI_add, nI_add, nI_add]
  congr 1
  omega
theorem adC_ne {E : ES} (hB : GB E) {p r k : Nat} (hp : p < eN E) (hr : r < 4) : adC E p r k ≠ -nI 100000 := by
  obtain ⟨z, hz, e⟩ := adC_rng hB (k := k) hp hr
  rw [e]
  intro h
  have := congrArg Int32.toInt h
  rw [pk_sub_toInt (by omega) (by omega), show (-nI 100000).toInt = -100000 from by decide] at this
  omega
theorem len_lt {E : ES} (hB : GB E) {p r : Nat} (hp : p < eN E) (hr : r < 4) (hm : p ∉ eL E r) : (eL E r).length < 16 := by
  have := nodup_len (eN E) (p :: eL E r) (List.nodup_cons.mpr ⟨hm, hB.nodup hr⟩) (fun q hq => by
    rcases List.mem_cons.mp hq with e | e
    · rw [e]; exact hp
    · exact hB.mem hr q e)
  rw [List.length_cons] at this
  have := hB.1
  omega
def eIn (E : ES) (r k p : Nat) : ES := eUp E r (ins (eL E r) k p)
def eOut (E : ES) (r k : Nat) : ES := eUp E r (del (eL E r) k)
theorem GB.ins {E : ES} (hB : GB E) {p r k : Nat} (hp : p < eN E) (hr : r < 4) (hm : ∀ r, r < 4 → p ∉ eL E r) : GB (eIn E r k p) := by
  refine hB.up hr (nodup_ins (hB.nodup hr) (hm r hr)) (fun q hq => ?_) (fun r' hr' hne q hq => ?_)
  · rcases mem_ins.mp hq with e | e
    · rw [e]; exact hp
    · exact hB.mem hr q e
  · rcases mem_ins.mp hq with e | e
    · rw [e]; exact hm r' hr'
    · exact hB.dis r r' hr hr' (fun e => hne e.symm) q e
theorem GB.out {E : ES} (hB : GB E) {r k : Nat} (hr : r < 4) (hk : k < (eL E r).length) : GB (eOut E r k) := by
  refine hB.up hr (nodup_del (hB.nodup hr) hk) (fun q hq => hB.mem hr q ((mem_del (hB.nodup hr) hk).mp hq).1) (fun r' hr' hne q hq => hB.dis r r' hr hr' (fun e => hne e.symm) q ((mem_del (hB.nodup hr) hk).mp hq).1)
theorem eUp_back (E : ES) (r : Nat) (M : List Nat) : eUp (eUp E r M) r (eL E r) = E := by
  obtain ⟨n, L, F, K, R, m, x⟩ := E
  show (n, fup (fup L r M) r (L r), F, K, R, m, x) = (n, L, F, K, R, m, x)
  have : fup (fup L r M) r (L r) = L := by
    funext j
    by_cases h : j = r
    · rw [h, fup_s]
    · rw [fup_n h, fup_n h]
  rw [this]
theorem eL_up (E : ES) (r : Nat) (M : List Nat) : eL (eUp E r M) r = M := fup_s
def canIn (E : ES) (r k p : Nat) : Prop := eH E r (ins (eL E r) k p)
section ADC
variable {E : ES} {facts ro locked rules sizes rows : Nat → Int32} {sc metric fixed : Int32}
theorem addsC (hB : GB E) (h : CW E facts ro locked rules sizes rows sc metric fixed) {p r k : Nat} (hp : p < eN E) (hr : r < 4) (hk : k ≤ (eL E r).length) : f_X6_addsAt facts sizes rows metric fixed (nI p) (nI r) (nI k) = some (adC E p r k) := addsAt_eq hB h hp hr hk
/-- a row with a stop more, gone through -/
theorem tryIn (hB : GB E) (h : CW E facts ro locked rules sizes rows sc metric fixed) {p r k : Nat} (hp : p < eN E) (hr : r < 4) (hm : p ∉ eL E r) (hk : k ≤ (eL E r).length) (row comes begins : Nat → Int32) : ∃ row1 row2 q, Rep row2 0 (ins (eL E r) k p) ∧ f_X0_load row sizes rows (nI r) = some (row1, nI r, nI (eL E r).length) ∧ f_X0_insert row1 (nI (eL E r).length) (nI k) (nI p) = some (row2, nI (ins (eL E r) k p).length) ∧ f_X0_follow row2 comes begins (nI r) (nI (ins (eL E r) k p).length) facts rules metric (nI 0) = some q ∧ (canIn E r k p ∧ q.1 = nI 1 ∨ ¬ canIn E r k p ∧ q.1 = nI 0) := by
  have hl := len_lt hB hp hr hm
  obtain ⟨row1, h1, h2⟩ := loadC hB h hr row
  obtain ⟨row2, h3, h4⟩ := insert_eq (p := p) h1 hl hk
  have hil := ins_len (p := p) hk
  obtain ⟨q, h5, h6⟩ := folC hB h hr h3 (by omega) (fun x hx => by
    rcases mem_ins.mp hx with e | e
    · rw [e]; exact hp
    · exact hB.mem hr x e) comes begins (nI 0)
  exact ⟨row1, row2, q, h3, h2, by rw [hil]; exact h4, h6, h5.2.2⟩
end ADC
theorem rg5 (m d x : Int32) : m + d - m + x = d + x := by grind
theorem addedM {E : ES} {s : Nat → Int32} (hB : GB E) (h : MW E s) {p r k : Nat} (hp : p < eN E) (hr : r < 4) (hm : ∀ r, r < 4 → p ∉ eL E r) (hk : k ≤ (eL E r).length) (comes begins : Nat → Int32) (back waits loads : Int32) : ∃ v s' cs bs b w l, f_X8_added s comes begins back waits loads (nI p) (nI r) (nI k) = some (v, s', cs, bs, b, w, l) ∧ MW E s' ∧ offR r s s' ∧ (canIn E r k p ∧ v = adC E p r k ∨ ¬ canIn E r k p ∧ v = -nI 100000) := by
  have hl := len_lt hB hp hr (hm r hr)
  have hil := ins_len (p := p) hk
  have hMR := h.2.2.2.2.2.2 r hr
  obtain ⟨s1, h1, h2, h3⟩ := insertsM_eq (p := p) hr hMR hl hk
  have hB1 : GB (eIn E r k p) := hB.ins hp hr hm
  have hM1 : MW (eIn E r k p) s1 := MW.up hB h hr h2 h3
  obtain ⟨v, cs, bs, b, w, l, h4, h5⟩ := holdsM hB1 hM1 hr comes begins back waits loads
  obtain ⟨s2, h6, h7, h8⟩ := removesM_eq hr h2 (by omega) (show k < (ins (eL E r) k p).length by omega)
  rw [del_ins hk] at h7
  have hM2 : MW E s2 := by
    have := MW.up hB1 hM1 hr h7 h8
    unfold eIn at this
    rw [eUp_back] at this
    exact this
  have ho : offR r s s2 := fun j hj => by rw [h8 j hj, h3 j hj]
  have hml := milesM_eq h.2.1 hB.2.1 hr hMR (hB.len hr) (hB.mem hr) hB.1 h.2.2.2.1 hB.2.2.2.1
  have e1 : eL (eIn E r k p) r = ins (eL E r) k p := eL_up _ _ _
  rw [e1] at h5
  have hml1 := milesM_eq hM1.2.1 hB1.2.1 hr h2 (by omega) (by have := hB1.mem hr; rw [e1] at this; exact this) hB1.1 hM1.2.2.2.1 hB1.2.2.2.1
  change f_X8_milesOf s1 (nI r) = some (ml (eD E) (ins (eL E r) k p)) at hml1
  rw [ml_ins _ hk] at hml1
  change f_X8_milesOf s (nI r) = some (ml (eD E) (eL E r)) at hml
  unfold f_X8_added
  simp only [lI]
  rw [hml, Option.bind_some, h1, Option.bind_some, h4, Option.bind_some]
  dsimp only
  rcases h5 with ⟨g1, g2, -⟩ | ⟨g1, g2⟩
  · rw [if_neg (by rw [g2]; decide), hml1, Option.bind_some, roundAt_eq s1 (by omega), Option.bind_some, h2.1, hil]
    refine ⟨_, s2, cs, bs, b, w, l, ?_, hM2, ho, Or.inl ⟨g1, rfl⟩⟩
    have h3' : s1 3 = eX E := hM1.2.2.1
    unfold adC b_X8_added_50 b_X8_added_56
    rw [h6, nI_clamp (by decide), h3', Option.bind_some, Option.bind_some, rg5, rg5]
    by_cases h0 : (eL E r).length = 0
    · rw [if_pos (by rw [h0]), if_pos h0]
    · rw [if_neg (by rw [nI_eq (by omega) (by decide)]; omega), if_neg h0]
  · rw [if_pos g2]
    refine ⟨_, s2, cs, bs, b, w, l, ?_, hM2, ho, Or.inr ⟨g1, rfl⟩⟩
    unfold b_X8_added_56
    rw [h6, Option.bind_some]
