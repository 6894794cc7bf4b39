/-! B25: swaps, told for both, and in the reference -/
theorem MW.up' {E : ES} {s s' : Nat → Int32} (hn : eN E ≤ 16) (hl : ∀ r, r < 4 → (eL E r).length ≤ 16) (h : MW E s) {r : Nat} (hr : r < 4) {M : List Nat} (h1 : MR s' r M) (h2 : offR r s s') : MW (eUp E r M) s' := by
  refine ⟨by rw [h2 4 (by omega)]; exact h.1, by rw [h2 2 (by omega)]; exact h.2.1, by rw [h2 3 (by omega)]; exact h.2.2.1, ⟨fun p hp w hw => ?_, ?_, ?_⟩, fun p hp => ?_, fun r' hr' w hw => ?_, fun r' hr' => ?_⟩
  · change p < eN E at hp
    rw [h2 _ (by omega)]; exact h.2.2.2.1.1 p hp w hw
  · rw [h2 _ (by omega)]; exact h.2.2.2.1.2.1
  · rw [h2 _ (by omega)]; exact h.2.2.2.1.2.2
  · change p < eN E at hp
    rw [h2 _ (by omega)]; exact h.2.2.2.2.1 p hp
  · rw [h2 _ (by omega)]; exact h.2.2.2.2.2.1 r' hr' w hw
  · show MR s' r' (fup (eL E) r M r')
    by_cases q : r' = r
    · rw [q, fup_s]; exact h1
    · rw [fup_n q]
      exact (h.2.2.2.2.2.2 r' hr').off h2 q (hl r' hr')
theorem MR.put {s : Nat → Int32} {r : Nat} {L : List Nat} (h : MR s r L) (hL : L.length ≤ 16) {i p : Nat} (hi : i < L.length) : MR (upd s (178 + 20 * r + 4 + i) (nI p)) r (L.set i p) ∧ offR r s (upd s (178 + 20 * r + 4 + i) (nI p)) := by
  refine ⟨⟨?_, fun k hk => ?_⟩, fun j hj => ?_⟩
  · unfold upd
    rw [if_neg (by omega), List.length_set]
    exact h.1
  · rw [List.length_set] at hk
    rw [at_put hi]
    unfold upd
    by_cases q : k = i
    · rw [if_pos (by omega), if_pos q]
    · rw [if_neg (by omega), if_neg q]
      exact h.2 k hk
  · unfold upd
    rw [if_neg (by omega)]
def ePut (E : ES) (a i q : Nat) : ES := eUp E a ((eL E a).set i q)
def eSwap (E : ES) (p q a i b j : Nat) : ES := ePut (ePut E a i q) b j p
def swArg (E : ES) (p q a i b j : Nat) : Prop := a < 4 ∧ b < 4 ∧ i < (eL E a).length ∧ j < (eL E b).length ∧ at_ (eL E a) i = p ∧ at_ (eL E b) j = q ∧ p ≠ q
theorem eSwap_one {E : ES} {p q a i j : Nat} : eSwap E p q a i a j = eUp E a (((eL E a).set i q).set j p) := by
  show eUp (eUp E a _) a ((eL (eUp E a ((eL E a).set i q)) a).set j p) = _
  rw [eUp_same, eL_up]
theorem eSwap_two {E : ES} {p q a i b j : Nat} (h : a ≠ b) : eSwap E p q a i b j = eUp (eUp E a ((eL E a).set i q)) b ((eL E b).set j p) := by
  show eUp (eUp E a _) b ((eL (eUp E a ((eL E a).set i q)) b).set j p) = _
  rw [show eL (eUp E a ((eL E a).set i q)) b = eL E b from fup_n (fun z => h z.symm)]
theorem eUp_comm (E : ES) {a b : Nat} (h : a ≠ b) (M N : List Nat) : eUp (eUp E a M) b N = eUp (eUp E b N) a M := by
  obtain ⟨n, L, F, K, R, m, x⟩ := E
  show (n, fup (fup L a M) b N, F, K, R, m, x) = (n, fup (fup L b N) a M, F, K, R, m, x)
  have : fup (fup L a M) b N = fup (fup L b N) a M := by
    funext j
    by_cases h1 : j = a
    · have h2 : j ≠ b := fun z => h (h1.symm.trans z)
      rw [fup_n h2, h1, fup_s, fup_s]
    · by_cases h2 : j = b
      · rw [h2, fup_s, fup_n (fun z => h z.symm), fup_s]
      · rw [fup_n h2, fup_n h1, fup_n h1, fup_n h2]
  rw [this]
theorem swArg.ij {E : ES} {p q a i j : Nat} (h : swArg E p q a i a j) : i ≠ j := fun z => h.2.2.2.2.2.2 (by rw [← h.2.2.2.2.1, ← h.2.2.2.2.2.1, z])
theorem swArg.gb {E : ES} {p q a i b j : Nat} (hB : GB E) (h : swArg E p q a i b j) : GB (eSwap E p q a i b j) := by
  by_cases hab : a = b
  · subst hab
    have hij := h.ij
    obtain ⟨ha, -, hi, hj, rfl, rfl, hpq⟩ := h
    rw [eSwap_one]
    refine hB.up ha (nodup_set2 (hB.nodup ha) hi hj hij) (fun x hx => hB.mem ha x ((mem_set2 hi hj hij).mp hx)) (fun r' hr' hne x hx => hB.dis a r' ha hr' (fun e => hne e.symm) x ((mem_set2 hi hj hij).mp hx))
  · obtain ⟨ha, hb, hi, hj, rfl, rfl, hpq⟩ := h
    rw [eSwap_two hab]
    have hpa := at_mem hi
    have hqb := at_mem hj
    have hpb : at_ (eL E a) i ∉ eL E b := hB.dis a b ha hb hab _ hpa
    have hqa : at_ (eL E b) j ∉ eL E a := hB.dis b a hb ha (fun z => hab z.symm) _ hqb
    have hB1 : GB (eOut E a i) := hB.out ha hi
    have hb1 : eL (eOut E a i) b = eL E b := fup_n (fun z => hab z.symm)
    have hB2 : GB (eUp (eOut E a i) b ((eL E b).set j (at_ (eL E a) i))) := by
      refine hB1.up hb (nodup_set (hB.nodup hb) hj hpb) (fun x hx => ?_) (fun r' hr' hne x hx => ?_)
      · rcases (mem_set (hB.nodup hb) hj).mp hx with e | e
        · rw [e]; exact hB.mem ha _ hpa
        · exact hB.mem hb x e.1
      · show x ∉ fup (eL E) a (del (eL E a) i) r'
        by_cases q : r' = a
        · rw [q, fup_s, mem_del (hB.nodup ha) hi]
          rintro ⟨z1, z2⟩
          rcases (mem_set (hB.nodup hb) hj).mp hx with e | e
          · exact z2 e
          · exact hB.dis a b ha hb hab x z1 e.1
        · rw [fup_n q]
          rcases (mem_set (hB.nodup hb) hj).mp hx with e | e
          · rw [e]; exact hB.dis a r' ha hr' (fun z => q z.symm) _ hpa
          · exact hB.dis b r' hb hr' (fun z => hne z.symm) x e.1
    have hB3 : GB (eUp (eUp (eOut E a i) b ((eL E b).set j (at_ (eL E a) i))) a ((eL E a).set i (at_ (eL E b) j))) := by
      refine hB2.up ha (nodup_set (hB.nodup ha) hi hqa) (fun x hx => ?_) (fun r' hr' hne x hx => ?_)
      · rcases (mem_set (hB.nodup ha) hi).mp hx with e | e
        · rw [e]; exact hB.mem hb _ hqb
        · exact hB.mem ha x e.1
      · show x ∉ fup (fup (eL E) a (del (eL E a) i)) b ((eL E b).set j (at_ (eL E a) i)) r'
        by_cases q : r' = b
        · rw [q, fup_s, mem_set (hB.nodup hb) hj]
          rintro (z | ⟨z1, z2⟩)
          · rcases (mem_set (hB.nodup ha) hi).mp hx with e | e
            · exact hpq (z.symm.trans e)
            · exact e.2 z
          · rcases (mem_set (hB.nodup ha) hi).mp hx with e | e
            · exact z2 e
            · exact hB.dis a b ha hb hab x e.1 z1
        · rw [fup_n q, fup_n hne]
          rcases (mem_set (hB.nodup ha) hi).mp hx with e | e
          · rw [e]; exact hB.dis b r' hb hr' (fun z => q z.symm) _ hqb
          · exact hB.dis a r' ha hr' (fun z => hne z.symm) x e.1
    rw [← eUp_comm _ hab] at hB3
    unfold eOut at hB3
    rw [eUp_same] at hB3
    exact hB3
theorem set_set_back {L : List Nat} {i p q : Nat} (hi : i < L.length) (hp : at_ L i = p) : (L.set i q).set i p = L := by
  refine list_at_ext (by rw [List.length_set, List.length_set]) fun k hk => ?_
  rw [at_put (by rw [List.length_set]; exact hi), at_put hi]
  by_cases z : k = i
  · rw [if_pos z, z, hp]
  · rw [if_neg z, if_neg z]
theorem eL_swap_a {E : ES} {p q a i b j : Nat} (h : a ≠ b) : eL (eSwap E p q a i b j) a = (eL E a).set i q ∧ eL (eSwap E p q a i b j) b = (eL E b).set j p := by
  rw [eSwap_two h]
  constructor
  · show fup (fup (eL E) a _) b _ a = _
    rw [fup_n h, fup_s]
  · exact eL_up _ _ _
theorem eSwap_back {E : ES} {p q a i b j : Nat} (h : swArg E p q a i b j) : eSwap (eSwap E p q a i b j) p q b j a i = E ∧ swArg (eSwap E p q a i b j) p q b j a i := by
  by_cases hab : a = b
  · subst hab
    have hij := h.ij
    obtain ⟨ha, -, hi, hj, hp, hq, hpq⟩ := h
    have hL : eL (eSwap E p q a i a j) a = ((eL E a).set i q).set j p := by rw [eSwap_one]; exact eL_up _ _ _
    have hlen : (eL (eSwap E p q a i a j) a).length = (eL E a).length := by rw [hL, List.length_set, List.length_set]
    have hj' : j < ((eL E a).set i q).length := by rw [List.length_set]; exact hj
    constructor
    · rw [eSwap_one, hL, eSwap_one, eUp_same]
      have : ((((eL E a).set i q).set j p).set j q).set i p = eL E a := by
        refine list_at_ext (by simp only [List.length_set]) fun k hk => ?_
        rw [at_put (by simp only [List.length_set]; exact hi), at_put (by simp only [List.length_set]; exact hj), at_put hj', at_put hi]
        by_cases z1 : k = i
        · rw [if_pos z1, z1, hp]
        · rw [if_neg z1]
          by_cases z2 : k = j
          · rw [if_pos z2, z2, hq]
          · rw [if_neg z2, if_neg z2, if_neg z1]
      rw [this]
      have := eUp_back E a (eL E a)
      rw [eUp_same] at this
      exact this
    · refine ⟨ha, ha, by rw [hlen]; exact hj, by rw [hlen]; exact hi, ?_, ?_, hpq⟩
      · rw [hL, at_put hj', if_pos rfl]
      · rw [hL, at_put hj', if_neg hij, at_put hi, if_pos rfl]
  · obtain ⟨ha, hb, hi, hj, hp, hq, hpq⟩ := h
    have hL := eL_swap_a (E := E) (p := p) (q := q) (i := i) (j := j) hab
    constructor
    · rw [eSwap_two (fun z => hab z.symm), hL.1, hL.2, set_set_back hi hp, set_set_back hj hq, eSwap_two hab, eUp_same, eUp_comm _ hab, eUp_same, eUp_comm _ (fun z => hab z.symm)]
      have h1 := eUp_back E a (eL E a)
      have h2 := eUp_back E b (eL E b)
      rw [eUp_same] at h1 h2
      rw [h1, h2]
    · refine ⟨hb, ha, by rw [hL.2, List.length_set]; exact hj, by rw [hL.1, List.length_set]; exact hi, ?_, ?_, hpq⟩
      · rw [hL.2, at_put hj, if_pos rfl]
      · rw [hL.1, at_put hi, if_pos rfl]
def swOK (E : ES) (p q a i b j : Nat) : Prop := eK E p = nI 0 ∧ eK E q = nI 0 ∧ eH E a (eL (eSwap E p q a i b j) a) ∧ eH E b (eL (eSwap E p q a i b j) b)
def swGain (E : ES) (p q a i b j : Nat) : Int32 := eC E - eC (eSwap E p q a i b j)
theorem whereM {E : ES} {s : Nat → Int32} (hB : GB E) (h : MW E s) {p a i : Nat} (ha : a < 4) (hi : i < (eL E a).length) (hp : at_ (eL E a) i = p) : f_X8_roundOf s (nI p) = some (nI a) ∧ f_X8_placeIn s (nI a) (nI p) = some (nI i) := by
  have hN := hB.1
  have hio := out_in (hB.nodup ha) hi hp
  have hpn := hB.mem ha p hio.1
  constructor
  · rw [roundOfM_eq (hB.MRs h) hN (by omega)]
    exact congrArg some (hB.rof ha hio.1)
  · rw [placeIn_eq ha (h.2.2.2.2.2.2 a ha) (hB.len ha) (hB.mem16 ha) (by omega)]
    unfold plc
    rw [if_pos hio.1, hio.2]
theorem swapsM {E : ES} {s : Nat → Int32} (hB : GB E) (h : MW E s) {p q a i b j : Nat} (hs : swArg E p q a i b j) : ∃ s', f_X8_swaps s (nI p) (nI q) = some s' ∧ MW (eSwap E p q a i b j) s' ∧ low s s' := by
  have hN := hB.1
  obtain ⟨ha, hb, hi, hj, hp, hq, hpq⟩ := hs
  have w1 := whereM hB h ha hi hp
  have w2 := whereM hB h hb hj hq
  have hla := hB.len ha
  have hlb := hB.len hb
  obtain ⟨m1, m2⟩ := MR.put (h.2.2.2.2.2.2 a ha) hla (p := q) hi
  have hM1 : MW (ePut E a i q) (upd s (178 + 20 * a + 4 + i) (nI q)) := MW.up hB h ha m1 m2
  have hl1 : ∀ r, r < 4 → (eL (ePut E a i q) r).length ≤ 16 := by
    intro r hr
    show (fup (eL E) a _ r).length ≤ 16
    by_cases z : r = a
    · rw [z, fup_s, List.length_set]; exact hla
    · rw [fup_n z]; exact hB.len hr
  have hj1 : j < (eL (ePut E a i q) b).length := by
    show j < (fup (eL E) a _ b).length
    by_cases z : b = a
    · subst z
      rw [fup_s, List.length_set]; exact hj
    · rw [fup_n z]; exact hj
  obtain ⟨m3, m4⟩ := MR.put (hM1.2.2.2.2.2.2 b hb) (hl1 b hb) (p := p) hj1
  refine ⟨_, ?_, MW.up' (E := ePut E a i q) hN hl1 hM1 hb m3 m4, m2.low.trans m4.low⟩
  unfold f_X8_swaps
  simp only [lI]
  rw [w1.1, Option.bind_some, w2.1, Option.bind_some, w1.2, Option.bind_some, w2.2, Option.bind_some]
  simp only [pk_mul, nI_add]
  rw [gI_n (by omega) (by decide), gI_n (by omega) (by decide), nI_clamp (by omega), nI_clamp (by omega)]
theorem swapGainsM {E : ES} {s : Nat → Int32} (hB : GB E) (h : MW E s) {p q a i b j : Nat} (hs : swArg E p q a i b j) (cs bs : Nat → Int32) (bb w l : Int32) : ∃ v s' cs' bs' b' w' l', f_X8_swapGains s cs bs bb w l (nI p) (nI q) = some (v, s', cs', bs', b', w', l') ∧ MW E s' ∧ low s s' ∧ (swOK E p q a i b j ∧ v = swGain E p q a i b j ∨ ¬ swOK E p q a i b j ∧ v = -nI 100000) := by
  have hN := hB.1
  have hB2 := hs.gb hB
  have hbk := eSwap_back hs
  obtain ⟨s1, g1, g2, g3⟩ := swapsM hB h hs
  obtain ⟨s2, g4, g5, g6⟩ := swapsM hB2 g2 hbk.2
  rw [hbk.1] at g5
  have lw := g3.trans g6
  obtain ⟨ha, hb, hi, hj, hp, hq, hpq⟩ := hs
  have w1 := whereM hB h ha hi hp
  have w2 := whereM hB h hb hj hq
  have hpn : p < eN E := hB.mem ha p (by rw [← hp]; exact at_mem hi)
  have hqn : q < eN E := hB.mem hb q (by rw [← hq]; exact at_mem hj)
  unfold f_X8_swapGains
  simp only [lI]
  rw [lockM hB h hpn, Option.bind_some]
  rcases kk hB hpn with hl | hl
  rotate_left
  · rw [if_pos hl]
    exact ⟨_, s, _, _, _, _, _, rfl, h, low.refl s, Or.inr ⟨fun z => absurd (hl.symm.trans z.1) (by decide), rfl⟩⟩
  rw [if_neg (by rw [hl]; decide), lockM hB h hqn, Option.bind_some]
  rcases kk hB hqn with hk | hk
  rotate_left
  · rw [if_pos hk]
    exact ⟨_, s, _, _, _, _, _, rfl, h, low.refl s, Or.inr ⟨fun z => absurd (hk.symm.trans z.2.1) (by decide), rfl⟩⟩
  rw [if_neg (by rw [hk]; decide), w1.1, Option.bind_some, w2.1, Option.bind_some, costM hB h, Option.bind_some, g1, Option.bind_some]
  obtain ⟨v, c, b', bk, w', l', j1, j2⟩ := holdsM hB2 g2 ha cs bs bb w l
  rw [j1, Option.bind_some]
  have e79 : ∀ (y : Int32) (c b' : Nat → Int32) (bk w' l' : Int32), b_X8_swapGains_79 (nI p) (nI q) y s1 c b' bk w' l' = some (y, s2, c, b', bk, w', l') := by
    intro y c b' bk w' l'
    unfold b_X8_swapGains_79
    rw [g4, Option.bind_some]
  dsimp only
  rcases j2 with ⟨j2, j3, -⟩ | ⟨j2, j3⟩
  · rw [if_neg (by rw [j3]; decide)]
    obtain ⟨v2, c2, b2, bk2, w2', l2, j4, j5⟩ := holdsM hB2 g2 hb c b' bk w' l'
    rw [j4, Option.bind_some]
    dsimp only
    rcases j5 with ⟨j5, j6, -⟩ | ⟨j5, j6⟩
    · rw [if_neg (by rw [j6]; decide), costM hB2 g2, Option.bind_some, e79]
      exact ⟨_, s2, _, _, _, _, _, rfl, g5, lw, Or.inl ⟨⟨hl, hk, j2, j5⟩, rfl⟩⟩
    · rw [if_pos j6]
      unfold b_X8_swapGains_77
      simp only [lI]
      rw [e79]
      exact ⟨_, s2, _, _, _, _, _, rfl, g5, lw, Or.inr ⟨fun z => j5 z.2.2.2, rfl⟩⟩
  · rw [if_pos j3]
    unfold b_X8_swapGains_77
    simp only [lI]
    rw [e79]
    exact ⟨_, s2, _, _, _, _, _, rfl, g5, lw, Or.inr ⟨fun z => j2 z.2.2.1, rfl⟩⟩
