/-! B11: a round's list becomes another -/
theorem list_at_ext {L M : List Nat} (hl : L.length = M.length) (h : ∀ k, k < L.length → at_ L k = at_ M k) : L = M := by
  refine List.ext_getElem hl fun k h1 h2 => ?_
  have := h k h1
  rw [at_def, at_def, List.getElem?_eq_getElem h1, List.getElem?_eq_getElem h2] at this
  exact this
theorem mem_at {L : List Nat} {p : Nat} : p ∈ L ↔ ∃ k, k < L.length ∧ at_ L k = p := by
  refine ⟨fun h => ⟨L.idxOf p, List.idxOf_lt_length_iff.mpr h, at_idx h⟩, ?_⟩
  rintro ⟨k, hk, rfl⟩
  exact at_mem hk
theorem at_get {L : List Nat} {k : Nat} (h : k < L.length) : at_ L k = L[k] := by
  rw [at_def, List.getElem?_eq_getElem h]
  rfl
theorem nodup_at {L : List Nat} : L.Nodup ↔ ∀ i j, i < j → j < L.length → at_ L i ≠ at_ L j := by
  unfold List.Nodup
  rw [List.pairwise_iff_getElem]
  refine ⟨fun h i j hij hj => ?_, fun h i j hi hj hij => ?_⟩
  · rw [at_get hj, at_get (show i < L.length by omega)]
    exact h i j (by omega) hj hij
  · rw [← at_get hj, ← at_get hi]
    exact h i j hij hj
theorem at_inj {L : List Nat} (h : L.Nodup) {i j : Nat} (hi : i < L.length) (hj : j < L.length) (e : at_ L i = at_ L j) : i = j := by
  rcases Nat.lt_trichotomy i j with q | q | q
  · exact absurd e (nodup_at.mp h i j q hj)
  · exact q
  · exact absurd e.symm (nodup_at.mp h j i q hi)
theorem idx_at {L : List Nat} (h : L.Nodup) {k : Nat} (hk : k < L.length) : L.idxOf (at_ L k) = k := at_inj h (List.idxOf_lt_length_iff.mpr (at_mem hk)) hk (at_idx (at_mem hk))
theorem ins_perm (L : List Nat) (k p : Nat) : (ins L k p).Perm (p :: L) := by
  unfold ins
  refine List.perm_middle.trans ?_
  rw [List.take_append_drop]
theorem mem_ins {L : List Nat} {k p q : Nat} : q ∈ ins L k p ↔ q = p ∨ q ∈ L := by rw [(ins_perm L k p).mem_iff, List.mem_cons]
theorem nodup_ins {L : List Nat} {k p : Nat} (h : L.Nodup) (hp : p ∉ L) : (ins L k p).Nodup := (ins_perm L k p).nodup_iff.mpr (List.nodup_cons.mpr ⟨hp, h⟩)
theorem del_ins {L : List Nat} {k p : Nat} (h : k ≤ L.length) : del (ins L k p) k = L := by
  have hl := ins_len (p := p) h
  refine list_at_ext (by rw [del_len (by omega)]; omega) fun j hj => ?_
  rw [at_del (by omega), at_ins h, at_ins h]
  by_cases h1 : j < k
  · rw [if_pos h1, if_pos h1]
  · rw [if_neg h1, if_neg (by omega), if_neg (by omega)]
    rfl
theorem ins_del {L : List Nat} {k : Nat} (h : k < L.length) : ins (del L k) k (at_ L k) = L := by
  have hl := del_len h
  refine list_at_ext (by rw [ins_len (by omega)]; omega) fun j hj => ?_
  rw [at_ins (by omega), at_del h, at_del h]
  by_cases h1 : j < k
  · rw [if_pos h1, if_pos h1]
  · rw [if_neg h1]
    by_cases h2 : j = k
    · rw [if_pos h2, h2]
    · rw [if_neg h2, if_neg (by omega), show j - 1 + 1 = j by omega]
theorem mem_del {L : List Nat} (hn : L.Nodup) {k q : Nat} (h : k < L.length) : q ∈ del L k ↔ q ∈ L ∧ q ≠ at_ L k := by
  have hp := ins_perm (del L k) k (at_ L k)
  rw [ins_del h] at hp
  have hc := List.nodup_cons.mp (hp.nodup_iff.mp hn)
  rw [hp.mem_iff, List.mem_cons]
  constructor
  · intro hq
    exact ⟨Or.inr hq, fun e => hc.1 (e ▸ hq)⟩
  · rintro ⟨h1 | h1, h2⟩
    · exact absurd h1 h2
    · exact h1
theorem nodup_del {L : List Nat} (hn : L.Nodup) {k : Nat} (h : k < L.length) : (del L k).Nodup := by
  have hp := ins_perm (del L k) k (at_ L k)
  rw [ins_del h] at hp
  exact (List.nodup_cons.mp (hp.nodup_iff.mp hn)).2
theorem mem_rev {L : List Nat} {i j q : Nat} (hij : i ≤ j) (h : j < L.length) : q ∈ rev L i j ↔ q ∈ L := by
  have hl := rev_len hij h
  rw [mem_at, mem_at]
  constructor
  · rintro ⟨k, hk, e⟩
    rw [at_rev hij h] at e
    by_cases h1 : i ≤ k ∧ k ≤ j
    · rw [if_pos h1] at e
      exact ⟨i + j - k, by omega, e⟩
    · rw [if_neg h1] at e
      exact ⟨k, by omega, e⟩
  · rintro ⟨k, hk, e⟩
    by_cases h1 : i ≤ k ∧ k ≤ j
    · exact ⟨i + j - k, by omega, by rw [at_rev hij h, if_pos (by omega), show i + j - (i + j - k) = k by omega]; exact e⟩
    · exact ⟨k, by omega, by rw [at_rev hij h, if_neg h1]; exact e⟩
theorem rev_rev {L : List Nat} {i j : Nat} (hij : i ≤ j) (h : j < L.length) : rev (rev L i j) i j = L := by
  have hl := rev_len hij h
  refine list_at_ext (by rw [rev_len hij (by omega), hl]) fun k hk => ?_
  rw [at_rev hij (by omega), at_rev hij h, at_rev hij h]
  by_cases h1 : i ≤ k ∧ k ≤ j
  · rw [if_pos h1, if_pos (by omega), show i + j - (i + j - k) = k by omega]
  · rw [if_neg h1, if_neg h1]
theorem nodup_rev {L : List Nat} (hn : L.Nodup) {i j : Nat} (hij : i ≤ j) (h : j < L.length) : (rev L i j).Nodup := by
  have hl := rev_len hij h
  rw [nodup_at]
  intro a b hab hb e
  rw [at_rev hij h, at_rev hij h] at e
  by_cases h1 : i ≤ a ∧ a ≤ j
  · rw [if_pos h1] at e
    by_cases h2 : i ≤ b ∧ b ≤ j
    · rw [if_pos h2] at e
      have := at_inj hn (by omega) (by omega) e
      omega
    · rw [if_neg h2] at e
      have := at_inj hn (by omega) (by omega) e
      omega
  · rw [if_neg h1] at e
    by_cases h2 : i ≤ b ∧ b ≤ j
    · rw [if_pos h2] at e
      have := at_inj hn (by omega) (by omega) e
      omega
    · rw [if_neg h2] at e
      have := at_inj hn (by omega) (by omega) e
      omega
/-- one stop in another's place -/
theorem set_eq {L : List Nat} {k p : Nat} (h : k < L.length) : L.set k p = ins (del L k) k p := by
  have hl := del_len h
  refine list_at_ext (by rw [List.length_set, ins_len (by omega)]; omega) fun j hj => ?_
  rw [at_put h, at_ins (by omega), at_del h, at_del h]
  by_cases h1 : j < k
  · rw [if_neg (by omega), if_pos h1, if_pos h1]
  · rw [if_neg h1]
    by_cases h2 : j = k
    · rw [if_pos h2, if_pos h2]
    · rw [if_neg h2, if_neg h2, if_neg (by omega), show j - 1 + 1 = j by omega]
theorem mem_set {L : List Nat} (hn : L.Nodup) {k p q : Nat} (h : k < L.length) : q ∈ L.set k p ↔ q = p ∨ q ∈ L ∧ q ≠ at_ L k := by rw [set_eq h, mem_ins, mem_del hn h]
theorem nodup_set {L : List Nat} (hn : L.Nodup) {k p : Nat} (h : k < L.length) (hp : p ∉ L) : (L.set k p).Nodup := by
  rw [set_eq h]
  exact nodup_ins (nodup_del hn h) (fun hm => hp ((mem_del hn h).mp hm).1)
/-- two stops of a round change places -/
theorem nodup_set2 {L : List Nat} (hn : L.Nodup) {i j : Nat} (hi : i < L.length) (hj : j < L.length) (hij : i ≠ j) : ((L.set i (at_ L j)).set j (at_ L i)).Nodup := by
  rw [nodup_at]
  intro a b hab hb e
  rw [List.length_set, List.length_set] at hb
  have hj' : j < (L.set i (at_ L j)).length := by rw [List.length_set]; exact hj
  rw [at_put hj', at_put hj', at_put hi, at_put hi] at e
  have key : ∀ x y : Nat, x < L.length → y < L.length → at_ L x = at_ L y → x = y := fun x y hx hy => at_inj hn hx hy
  split at e <;> split at e <;> (try split at e) <;> (try split at e) <;> first | omega | (have := key _ _ (by omega) (by omega) e; omega)
theorem mem_set2 {L : List Nat} {i j q : Nat} (hi : i < L.length) (hj : j < L.length) (hij : i ≠ j) : q ∈ (L.set i (at_ L j)).set j (at_ L i) ↔ q ∈ L := by
  have hj' : j < (L.set i (at_ L j)).length := by rw [List.length_set]; exact hj
  rw [mem_at, mem_at]
  constructor
  · rintro ⟨k, hk, e⟩
    rw [List.length_set, List.length_set] at hk
    rw [at_put hj', at_put hi] at e
    split at e
    · exact ⟨i, hi, e⟩
    · split at e
      · exact ⟨j, hj, e⟩
      · exact ⟨k, hk, e⟩
  · rintro ⟨k, hk, e⟩
    have hl : ((L.set i (at_ L j)).set j (at_ L i)).length = L.length := by rw [List.length_set, List.length_set]
    by_cases h1 : k = i
    · exact ⟨j, by rw [hl]; exact hj, by rw [at_put hj', if_pos rfl, ← h1]; exact e⟩
    · by_cases h2 : k = j
      · exact ⟨i, by rw [hl]; exact hi, by rw [at_put hj', at_put hi, if_neg hij, if_pos rfl, ← h2]; exact e⟩
      · exact ⟨k, by rw [hl]; exact hk, by rw [at_put hj', at_put hi, if_neg h2, if_neg h1]; exact e⟩
def eUp (E : ES) (r : Nat) (M : List Nat) : ES := (eN E, fup (eL E) r M, eF E, eK E, eR E, eM E, eX E)
def Dis (L : Nat → List Nat) : Prop := ∀ r r', r < 4 → r' < 4 → r ≠ r' → ∀ p ∈ L r, p ∉ L r'
theorem GB.dis {E : ES} (h : GB E) : Dis (eL E) := h.2.2.2.2.2.2.2.2
theorem GB.nodup {E : ES} (h : GB E) {r : Nat} (hr : r < 4) : (eL E r).Nodup := (h.2.2.2.2.2.2.2.1 r hr).1
theorem rof_in {L : Nat → List Nat} (h : Dis L) {p r : Nat} (hr : r < 4) (hm : p ∈ L r) : rof L p = nI r := rof_of hr hm (fun r' hr' hne hp => h r r' hr hr' (fun e => hne e.symm) p hm hp)
def roK (ro : Nat → Int32) (r : Nat) (L L' : List Nat) (p : Nat) : Int32 := if p ∈ L' then nI r else if p ∈ L ∧ ro p = nI r then -nI 5 else ro p
theorem nI_ne4 {a b : Nat} (ha : a < 4) (hb : b < 4) (h : a ≠ b) : nI a ≠ nI b := fun e => h (nI_inj (by omega) (by omega) e)
theorem rof_fup {L : Nat → List Nat} (hd : Dis L) {r : Nat} (hr : r < 4) {M : List Nat} (hd' : Dis (fup L r M)) {ro : Nat → Int32} {p : Nat} (hro : ro p = rof L p) : roK ro r (L r) M p = rof (fup L r M) p := by
  unfold roK
  rw [hro]
  by_cases hM : p ∈ M
  · rw [if_pos hM, rof_in hd' hr (by rw [fup_s]; exact hM)]
  · rw [if_neg hM]
    rcases rof_or L p with ⟨r0, h0, hm, -, e⟩ | ⟨hn, e⟩
    · by_cases h1 : r0 = r
      · subst h1
        rw [if_pos ⟨hm, e⟩]
        refine (rof_none fun r' hr' => ?_).symm
        by_cases h2 : r' = r0
        · rw [h2, fup_s]; exact hM
        · rw [fup_n h2]; exact hd r0 r' h0 hr' (fun q => h2 q.symm) p hm
      · rw [if_neg (fun q => nI_ne4 h0 hr h1 (e.symm.trans q.2)), e]
        exact (rof_in hd' h0 (by rw [fup_n h1]; exact hm)).symm
    · rw [if_neg (fun q => hn r hr q.1), e]
      refine (rof_none fun r' hr' => ?_).symm
      by_cases h2 : r' = r
      · rw [h2, fup_s]; exact hM
      · rw [fup_n h2]; exact hn r' hr'
theorem rof_fup2 {L : Nat → List Nat} (hd : Dis L) {r t : Nat} (hr : r < 4) (ht : t < 4) (hrt : r ≠ t) {M N : List Nat} (hd' : Dis (fup (fup L r M) t N)) {ro ro' : Nat → Int32} {p : Nat} (hro : ro p = rof L p) (hro' : ro' p = roK ro r (L r) M p) : roK ro' t (L t) N p = rof (fup (fup L r M) t N) p := by
  unfold roK
  by_cases hN : p ∈ N
  · rw [if_pos hN, rof_in hd' ht (by rw [fup_s]; exact hN)]
  · rw [if_neg hN, hro']
    unfold roK
    rw [hro]
    by_cases hM : p ∈ M
    · rw [if_pos hM, if_neg (fun q => nI_ne4 hr ht hrt q.2)]
      exact (rof_in hd' hr (by rw [fup_n hrt, fup_s]; exact hM)).symm
    · rw [if_neg hM]
      have off : ∀ r', r' < 4 → (r' ≠ r → r' ≠ t → p ∉ L r') → p ∉ fup (fup L r M) t N r' := by
        intro r' hr' h
        by_cases h1 : r' = t
        · rw [h1, fup_s]; exact hN
        · rw [fup_n h1]
          by_cases h2 : r' = r
          · rw [h2, fup_s]; exact hM
          · rw [fup_n h2]; exact h h2 h1
      generalize hv : (if p ∈ L r ∧ rof L p = nI r then -nI 5 else rof L p) = v
      rcases rof_or L p with ⟨r0, h0, hm, -, e⟩ | ⟨hn, e⟩
      · by_cases h1 : r0 = r
        · subst h1
          rw [if_pos ⟨hm, e⟩] at hv
          subst hv
          rw [if_neg (fun q => nI_ne_m5 (show t < 2 ^ 31 by omega) q.2.symm)]
          exact (rof_none fun r' hr' => off r' hr' fun h2 _ => hd r0 r' h0 hr' (fun q => h2 q.symm) p hm).symm
        · rw [if_neg (fun q => nI_ne4 h0 hr h1 (e.symm.trans q.2))] at hv
          subst hv
          by_cases h2 : r0 = t
          · subst h2
            rw [if_pos ⟨hm, e⟩]
            exact (rof_none fun r' hr' => off r' hr' fun _ h3 => hd r0 r' h0 hr' (fun q => h3 q.symm) p hm).symm
          · rw [if_neg (fun q => nI_ne4 h0 ht h2 (e.symm.trans q.2)), e]
            exact (rof_in hd' h0 (by rw [fup_n h2, fup_n h1]; exact hm)).symm
      · rw [if_neg (fun q => hn r hr q.1)] at hv
        subst hv
        rw [if_neg (fun q => hn t ht q.1), e]
        exact (rof_none fun r' hr' => off r' hr' fun _ _ => hn r' hr').symm
theorem GB.up {E : ES} (h : GB E) {r : Nat} (hr : r < 4) {M : List Nat} (h1 : M.Nodup) (h2 : ∀ p ∈ M, p < eN E) (h3 : ∀ r', r' < 4 → r' ≠ r → ∀ p ∈ M, p ∉ eL E r') : GB (eUp E r M) := by
  refine ⟨h.1, h.2.1, h.2.2.1, h.2.2.2.1, h.2.2.2.2.1, h.2.2.2.2.2.1, h.2.2.2.2.2.2.1, fun r' hr' => ?_, fun a b ha hb hab p hp hq => ?_⟩
  · show (fup (eL E) r M r').Nodup ∧ ∀ p ∈ fup (eL E) r M r', p < eN E
    by_cases q : r' = r
    · rw [q, fup_s]; exact ⟨h1, h2⟩
    · rw [fup_n q]; exact h.2.2.2.2.2.2.2.1 r' hr'
  · change p ∈ fup (eL E) r M a at hp
    change p ∈ fup (eL E) r M b at hq
    by_cases qa : a = r
    · rw [qa, fup_s] at hp
      rw [fup_n (fun e => hab (qa.trans e.symm))] at hq
      exact h3 b hb (fun e => hab (qa.trans e.symm)) p hp hq
    · rw [fup_n qa] at hp
      by_cases qb : b = r
      · rw [qb, fup_s] at hq
        exact h3 a ha qa p hq hp
      · rw [fup_n qb] at hq
        exact h.dis a b ha hb hab p hp hq
section UPD
variable {E : ES} {facts ro locked rules sizes rows : Nat → Int32} {sc metric fixed : Int32}
theorem keepC (hB : GB E) (h : CW E facts ro locked rules sizes rows sc metric fixed) {r : Nat} (hr : r < 4) {row : Nat → Int32} {M : List Nat} (hrow : Rep row 0 M) (hB' : GB (eUp E r M)) : ∃ ro' sizes' rows', f_X0_keep row (nI r) (nI M.length) ro sizes rows = some (ro', sizes', rows') ∧ (∀ p, ro' p = roK ro r (eL E r) M p) ∧ CW (eUp E r M) facts ro' locked rules sizes' rows' sc metric fixed := by
  have hS := h.2.2.2.2.2.2.2
  have hl : M.length ≤ 16 := by have := hB'.len hr; rw [show eL (eUp E r M) r = M from fup_s] at this; exact this
  have hm : ∀ p ∈ M, p < 16 := by have := hB'.mem16 hr; rw [show eL (eUp E r M) r = M from fup_s] at this; exact this
  obtain ⟨ro', sizes', rows', h1, h2, h3, h4⟩ := keep_eq (ro := ro) hr hrow hl hm (hS r hr).1 (hS r hr).2 (hB.len hr) (hB.mem16 hr)
  refine ⟨ro', sizes', rows', h4, h1, h.1, h.2.1, h.2.2.1, h.2.2.2.1, fun p hp => ?_, h.2.2.2.2.2.1, h.2.2.2.2.2.2.1, fun r' hr' => ?_⟩
  · rw [h1]
    exact rof_fup hB.dis hr hB'.dis (h.2.2.2.2.1 p hp)
  · show sizes' r' = nI (fup (eL E) r M r').length ∧ Rep rows' (16 * r') (fup (eL E) r M r')
    by_cases q : r' = r
    · rw [q, fup_s]; exact ⟨h2.1, h3.1⟩
    · rw [fup_n q, h2.2 r' q]
      have hl' := hB.len hr'
      exact ⟨(hS r' hr').1, fun k hk => by rw [h3.2 _ (by omega)]; exact (hS r' hr').2 k hk⟩
theorem keepC2 (hB : GB E) (h : CW E facts ro locked rules sizes rows sc metric fixed) {r t : Nat} (hr : r < 4) (ht : t < 4) (hrt : r ≠ t) {row row2 : Nat → Int32} {M N : List Nat} (hrow : Rep row 0 M) (hrow2 : Rep row2 0 N) (hM : M.length ≤ 16) (hM' : ∀ p ∈ M, p < 16) (hB' : GB (eUp (eUp E r M) t N)) : ∃ ro1 sizes1 rows1 ro' sizes' rows', f_X0_keep row (nI r) (nI M.length) ro sizes rows = some (ro1, sizes1, rows1) ∧ f_X0_keep row2 (nI t) (nI N.length) ro1 sizes1 rows1 = some (ro', sizes', rows') ∧ CW (eUp (eUp E r M) t N) facts ro' locked rules sizes' rows' sc metric fixed := by
  have hS := h.2.2.2.2.2.2.2
  have hl : N.length ≤ 16 := by have := hB'.len ht; rw [show eL (eUp (eUp E r M) t N) t = N from fup_s] at this; exact this
  have hm : ∀ p ∈ N, p < 16 := by have := hB'.mem16 ht; rw [show eL (eUp (eUp E r M) t N) t = N from fup_s] at this; exact this
  obtain ⟨ro1, sizes1, rows1, h1, h2, h3, h4⟩ := keep_eq (ro := ro) hr hrow hM hM' (hS r hr).1 (hS r hr).2 (hB.len hr) (hB.mem16 hr)
  have hlt := hB.len ht
  have hZ : sizes1 t = nI (eL E t).length := by rw [h2.2 t (fun e => hrt e.symm)]; exact (hS t ht).1
  have hR : Rep rows1 (16 * t) (eL E t) := fun k hk => by rw [h3.2 _ (by omega)]; exact (hS t ht).2 k hk
  obtain ⟨ro', sizes', rows', g1, g2, g3, g4⟩ := keep_eq (ro := ro1) ht hrow2 hl hm hZ hR hlt (hB.mem16 ht)
  refine ⟨ro1, sizes1, rows1, ro', sizes', rows', h4, g4, h.1, h.2.1, h.2.2.1, h.2.2.2.1, fun p hp => ?_, h.2.2.2.2.2.1, h.2.2.2.2.2.2.1, fun r' hr' => ?_⟩
  · rw [g1]
    exact rof_fup2 hB.dis hr ht hrt hB'.dis (h.2.2.2.2.1 p hp) (h1 p)
  · show sizes' r' = nI (fup (fup (eL E) r M) t N r').length ∧ Rep rows' (16 * r') (fup (fup (eL E) r M) t N r')
    by_cases q : r' = t
    · rw [q, fup_s]; exact ⟨g2.1, g3.1⟩
    · rw [fup_n q, g2.2 r' q]
      by_cases q2 : r' = r
      · rw [q2, fup_s]
        exact ⟨h2.1, fun k hk => by rw [g3.2 _ (by omega)]; exact h3.1 k hk⟩
      · rw [fup_n q2, h2.2 r' q2]
        have hl' := hB.len hr'
        exact ⟨(hS r' hr').1, fun k hk => by rw [g3.2 _ (by omega), h3.2 _ (by omega)]; exact (hS r' hr').2 k hk⟩
end UPD
theorem MW.up {E : ES} {s s' : Nat → Int32} (hB : GB E) (h : MW E s) {r : Nat} (hr : r < 4) {M : List Nat} (h1 : MR s' r M) (h2 : offR r s s') : MW (eUp E r M) s' := by
  have hn := hB.1
  refine ⟨by rw [h2 4 (by omega)]; exact h.1, by rw [h2 2 (by omega)]; exact h.2.1, by rw [h2 3 (by omega)]; exact h.2.2.1, ⟨fun p hp w hw => ?_, ?_, ?_⟩, fun p hp => ?_, fun r' hr' w hw => ?_, fun r' hr' => ?_⟩
  · change p < eN E at hp
    rw [h2 _ (by omega)]; exact h.2.2.2.1.1 p hp w hw
  · rw [h2 _ (by omega)]; exact h.2.2.2.1.2.1
  · rw [h2 _ (by omega)]; exact h.2.2.2.1.2.2
  · change p < eN E at hp
    rw [h2 _ (by omega)]; exact h.2.2.2.2.1 p hp
  · rw [h2 _ (by omega)]; exact h.2.2.2.2.2.1 r' hr' w hw
  · show MR s' r' (fup (eL E) r M r')
    by_cases q : r' = r
    · rw [q, fup_s]; exact h1
    · rw [fup_n q]
      exact (h.2.2.2.2.2.2 r' hr').off h2 q (hB.len hr')
