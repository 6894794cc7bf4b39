/-! B44: what a plan ends with, in both -/
noncomputable def tkE (F : ES) (p : Nat) : ES := @ite ES (tkOK F p) (Classical.propDecidable _) (eOut F (wr F p) (wk F p)) F
theorem tkE_t {F : ES} {p : Nat} (h : tkOK F p) : tkE F p = eOut F (wr F p) (wk F p) := by
  unfold tkE
  exact @if_pos _ (Classical.propDecidable _) h _ _ _
theorem tkE_f {F : ES} {p : Nat} (h : ¬ tkOK F p) : tkE F p = F := by
  unfold tkE
  exact @if_neg _ (Classical.propDecidable _) h _ _ _
noncomputable def bsE (F : ES) : ES := match bestF F with
  | none => F
  | some m => m.res F
theorem bsE_none {F : ES} (h : bestF F = none) : bsE F = F := by
  unfold bsE
  rw [h]
theorem bsE_some {F : ES} {m : Mv} (h : bestF F = some m) : bsE F = m.res F := by
  unfold bsE
  rw [h]
/-- one row of a plan -/
noncomputable def goE (F : ES) (x y : Int32) : ES := if x = nI 0 then (fl F 16).1 else if x = nI 1 then bsE F else if x = nI 2 then tkE F y.toNatClampNeg else eSetX F y
noncomputable def gos (E : ES) (pl pr : Nat → Int32) : Nat → ES
  | 0 => E
  | t + 1 => goE (gos E pl pr t) (pl t) (pr t)
theorem gos_succ (E : ES) (pl pr : Nat → Int32) (t : Nat) : gos E pl pr (t + 1) = goE (gos E pl pr t) (pl t) (pr t) := rfl
theorem fl_eN : ∀ (n : Nat) (E : ES), eN (fl E n).1 = eN E := by
  intro n
  induction n with
  | zero => intro E; rfl
  | succ n ih =>
    intro E
    cases f : fs E (eN E) with
    | none => rw [fl_none f]
    | some y =>
      obtain ⟨p, r, k, a, g⟩ := y
      rw [fl_some f]
      exact ih _
theorem res_eN (F : ES) (m : Mv) : eN (m.res F) = eN F := by
  obtain (⟨r, i, j⟩ | ⟨p, f, i, r, k⟩ | ⟨p, q, a, i, b, j⟩) := m <;> rfl
theorem bsE_GI {F : ES} (h : GI F) : GI (bsE F) ∧ eN (bsE F) = eN F := by
  cases f : bestF F with
  | none => rw [bsE_none f]; exact ⟨h, rfl⟩
  | some m => rw [bsE_some f]; exact ⟨Mv.gi h (best_ok f), res_eN F m⟩
theorem tkE_GI {F : ES} (h : GI F) (p : Nat) : GI (tkE F p) ∧ eN (tkE F p) = eN F := by
  by_cases q : tkOK F p
  · rw [tkE_t q]; exact ⟨tk_gi h q, rfl⟩
  · rw [tkE_f q]; exact ⟨h, rfl⟩
/-- a row that a plan may have -/
def okP (n : Nat) (x y : Int32) : Prop := ∃ w, w ≤ 3 ∧ x = nI w ∧ (w = 2 → ∃ p, p < n ∧ y = nI p) ∧ (w = 3 → ∃ z, z ≤ 99 ∧ y = nI z)
theorem goE_GI {F : ES} (h : GI F) {x y : Int32} (ho : okP (eN F) x y) : GI (goE F x y) ∧ eN (goE F x y) = eN F := by
  obtain ⟨w, hw, rfl, h2, h3⟩ := ho
  unfold goE
  by_cases q0 : nI w = nI 0
  · rw [if_pos q0]; exact ⟨fl_GI h, fl_eN 16 F⟩
  rw [if_neg q0]
  by_cases q1 : nI w = nI 1
  · rw [if_pos q1]; exact bsE_GI h
  rw [if_neg q1]
  by_cases q2 : nI w = nI 2
  · rw [if_pos q2]; exact tkE_GI h _
  rw [if_neg q2]
  have hw3 : w = 3 := by
    rcases (show w = 0 ∨ w = 1 ∨ w = 2 ∨ w = 3 by omega) with e | e | e | e
    · exact absurd (congrArg nI e) q0
    · exact absurd (congrArg nI e) q1
    · exact absurd (congrArg nI e) q2
    · exact e
  obtain ⟨z, hz, rfl⟩ := h3 hw3
  exact ⟨h.setX hz, rfl⟩
theorem gos_GI {E : ES} (h : GI E) {pl pr : Nat → Int32} {a : Nat} (ho : ∀ i, i < a → okP (eN E) (pl i) (pr i)) : ∀ t, t ≤ a → GI (gos E pl pr t) ∧ eN (gos E pl pr t) = eN E := by
  intro t
  induction t with
  | zero => intro _; exact ⟨h, rfl⟩
  | succ t ih =>
    intro ht
    obtain ⟨h1, h2⟩ := ih (by omega)
    have := goE_GI h1 (x := pl t) (y := pr t) (by rw [h2]; exact ho t (by omega))
    rw [gos_succ]
    exact ⟨this.1, this.2.trans h2⟩
abbrev TE59 : Type := (Nat → Int32) × (Nat → Int32) × (Nat → Int32) × Int32 × (Nat → Int32) × (Nat → Int32) × (Nat → Int32) × Int32 × Int32 × Int32 × Int32 × Int32 × Int32 × Int32 × (Nat → Int32) × (Nat → Int32) × (Nat → Int32) × Int32 × Int32 × Int32 × Int32 × Int32 × Int32 × Int32 × Int32 × Int32 × Int32 × Int32 × Int32 × Int32 × Int32 × Int32 × Int32 × TS26
abbrev TB26 : Type := (Nat → Int32) × (Nat → Int32) × (Nat → Int32) × Int32 × Int32 × Int32 × Int32 × Int32 × Int32 × Int32 × (Nat → Int32) × (Nat → Int32) × (Nat → Int32) × Int32 × Int32 × Int32 × Int32 × Int32 × Int32 × Int32 × Int32 × Int32 × Int32 × Int32 × Int32 × Int32 × Int32
abbrev TE75 : Type := Int32 × (Nat → Int32) × (Nat → Int32) × (Nat → Int32) × (Nat → Int32) × (Nat → Int32) × (Nat → Int32) × (Nat → Int32) × (Nat → Int32) × Int32 × (Nat → Int32) × (Nat → Int32) × Int32 × (Nat → Int32) × (Nat → Int32) × Int32 × Int32 × Int32 × Int32 × (Nat → Int32) × (Nat → Int32) × (Nat → Int32) × Int32 × Int32 × Int32 × Int32 × Int32 × Int32 × Int32 × (Nat → Int32) × (Nat → Int32) × (Nat → Int32) × Int32 × Int32 × Int32 × Int32 × Int32 × Int32 × Int32 × Int32 × Int32 × Int32 × Int32 × Int32 × Int32 × Int32 × Int32 × Int32 × TB26
section ENDS
variable {E : ES} {facts ro locked rules sizes rows s : Nat → Int32} {sc metric fixed : Int32}
/-- what is told of the end -/
def endV (F : ES) (x : Int32) : Int32 := if x = nI 0 then eC F else eO F
theorem endsC (hI : GI E) (h : CW E facts ro locked rules sizes rows sc metric fixed) {pl pr : Nat → Int32} {a : Nat} (ha : a ≤ 8) (ho : ∀ i, i < a → okP (eN E) (pl i) (pr i)) (x1 : Int32) (k1 k2 k4 k5 k7 k8 : Nat → Int32) (k3 k6 k9 W : Int32) (d1 d2 d3 : Nat → Int32) (d4 d5 d6 d7 d8 d9 d10 : Int32) (y1 y2 y3 : Nat → Int32) (y4 y5 y6 y7 y8 y9 y10 y11 y12 y13 y14 c1 c2 c3 c4 c5 : Int32) (m1 m2 m3 : Nat → Int32) (m4 m5 m6 m7 m8 m9 m10 : Int32) (n1 n2 n3 : Nat → Int32) (n4 n5 n6 n7 n8 n9 n10 tw kd gg ca cb cc : Int32) : ∃ q : TE75, l_X7_ends_45 x1 (nI a) pl pr facts locked rules k1 k2 k3 k4 k5 k6 k7 k8 k9 sc metric W (nI 0, ro, sizes, rows, fixed, d1, d2, d3, d4, d5, d6, d7, d8, d9, d10, y1, y2, y3, y4, y5, y6, y7, y8, y9, y10, y11, y12, y13, y14, c1, c2, c3, c4, c5, m1, m2, m3, m4, m5, m6, m7, m8, m9, m10, n1, n2, n3, n4, n5, n6, n7, n8, n9, n10, tw, kd, gg, ca, cb, cc) = some q ∧ q.1 = endV (gos E pl pr a) x1 ∧ q.2.2.2.2.2.2.2.2.2.2.2.2.2.2.2.2.2.2.2.2.2.2.2.2.2.2.2.2.2.2.2.2.2.2.2.2.2.2.2.2.2.2.2.2.2.2.2.2.2.2.2.2.2.2.2.2.2.2.2.2.2.2.2.2.2.2.2.2.2.2.2.2.2.2 = W := by
  unfold l_X7_ends_45
  obtain ⟨q, h1, h2⟩ := lp_inv (F := fun k (x : Int32 × TE59) => b_X7_ends_45 x1 (nI a) pl pr facts locked rules k1 k2 k3 k4 k5 k6 k7 k8 k9 sc metric W k x.1 x.2.1 x.2.2.1 x.2.2.2.1 x.2.2.2.2.1 x.2.2.2.2.2.1 x.2.2.2.2.2.2.1 x.2.2.2.2.2.2.2.1 x.2.2.2.2.2.2.2.2.1 x.2.2.2.2.2.2.2.2.2.1 x.2.2.2.2.2.2.2.2.2.2.1 x.2.2.2.2.2.2.2.2.2.2.2.1 x.2.2.2.2.2.2.2.2.2.2.2.2.1 x.2.2.2.2.2.2.2.2.2.2.2.2.2.1 x.2.2.2.2.2.2.2.2.2.2.2.2.2.2.1 x.2.2.2.2.2.2.2.2.2.2.2.2.2.2.2.1 x.2.2.2.2.2.2.2.2.2.2.2.2.2.2.2.2.1 x.2.2.2.2.2.2.2.2.2.2.2.2.2.2.2.2.2.1 x.2.2.2.2.2.2.2.2.2.2.2.2.2.2.2.2.2.2.1 x.2.2.2.2.2.2.2.2.2.2.2.2.2.2.2.2.2.2.2.1 x.2.2.2.2.2.2.2.2.2.2.2.2.2.2.2.2.2.2.2.2.1 x.2.2.2.2.2.2.2.2.2.2.2.2.2.2.2.2.2.2.2.2.2.1 x.2.2.2.2.2.2.2.2.2.2.2.2.2.2.2.2.2.2.2.2.2.2.1 x.2.2.2.2.2.2.2.2.2.2.2.2.2.2.2.2.2.2.2.2.2.2.2.1 x.2.2.2.2.2.2.2.2.2.2.2.2.2.2.2.2.2.2.2.2.2.2.2.2.1 x.2.2.2.2.2.2.2.2.2.2.2.2.2.2.2.2.2.2.2.2.2.2.2.2.2.1 x.2.2.2.2.2.2.2.2.2.2.2.2.2.2.2.2.2.2.2.2.2.2.2.2.2.2.1 x.2.2.2.2.2.2.2.2.2.2.2.2.2.2.2.2.2.2.2.2.2.2.2.2.2.2.2.1 x.2.2.2.2.2.2.2.2.2.2.2.2.2.2.2.2.2.2.2.2.2.2.2.2.2.2.2.2.1 x.2.2.2.2.2.2.2.2.2.2.2.2.2.2.2.2.2.2.2.2.2.2.2.2.2.2.2.2.2.1 x.2.2.2.2.2.2.2.2.2.2.2.2.2.2.2.2.2.2.2.2.2.2.2.2.2.2.2.2.2.2.1 x.2.2.2.2.2.2.2.2.2.2.2.2.2.2.2.2.2.2.2.2.2.2.2.2.2.2.2.2.2.2.2.1 x.2.2.2.2.2.2.2.2.2.2.2.2.2.2.2.2.2.2.2.2.2.2.2.2.2.2.2.2.2.2.2.2.1 x.2.2.2.2.2.2.2.2.2.2.2.2.2.2.2.2.2.2.2.2.2.2.2.2.2.2.2.2.2.2.2.2.2.1 x.2.2.2.2.2.2.2.2.2.2.2.2.2.2.2.2.2.2.2.2.2.2.2.2.2.2.2.2.2.2.2.2.2.2.1 x.2.2.2.2.2.2.2.2.2.2.2.2.2.2.2.2.2.2.2.2.2.2.2.2.2.2.2.2.2.2.2.2.2.2.2.1 x.2.2.2.2.2.2.2.2.2.2.2.2.2.2.2.2.2.2.2.2.2.2.2.2.2.2.2.2.2.2.2.2.2.2.2.2.1 x.2.2.2.2.2.2.2.2.2.2.2.2.2.2.2.2.2.2.2.2.2.2.2.2.2.2.2.2.2.2.2.2.2.2.2.2.2.1 x.2.2.2.2.2.2.2.2.2.2.2.2.2.2.2.2.2.2.2.2.2.2.2.2.2.2.2.2.2.2.2.2.2.2.2.2.2.2.1 x.2.2.2.2.2.2.2.2.2.2.2.2.2.2.2.2.2.2.2.2.2.2.2.2.2.2.2.2.2.2.2.2.2.2.2.2.2.2.2.1 x.2.2.2.2.2.2.2.2.2.2.2.2.2.2.2.2.2.2.2.2.2.2.2.2.2.2.2.2.2.2.2.2.2.2.2.2.2.2.2.2.1 x.2.2.2.2.2.2.2.2.2.2.2.2.2.2.2.2.2.2.2.2.2.2.2.2.2.2.2.2.2.2.2.2.2.2.2.2.2.2.2.2.2.1 x.2.2.2.2.2.2.2.2.2.2.2.2.2.2.2.2.2.2.2.2.2.2.2.2.2.2.2.2.2.2.2.2.2.2.2.2.2.2.2.2.2.2.1 x.2.2.2.2.2.2.2.2.2.2.2.2.2.2.2.2.2.2.2.2.2.2.2.2.2.2.2.2.2.2.2.2.2.2.2.2.2.2.2.2.2.2.2.1 x.2.2.2.2.2.2.2.2.2.2.2.2.2.2.2.2.2.2.2.2.2.2.2.2.2.2.2.2.2.2.2.2.2.2.2.2.2.2.2.2.2.2.2.2.1 x.2.2.2.2.2.2.2.2.2.2.2.2.2.2.2.2.2.2.2.2.2.2.2.2.2.2.2.2.2.2.2.2.2.2.2.2.2.2.2.2.2.2.2.2.2.1 x.2.2.2.2.2.2.2.2.2.2.2.2.2.2.2.2.2.2.2.2.2.2.2.2.2.2.2.2.2.2.2.2.2.2.2.2.2.2.2.2.2.2.2.2.2.2.1 x.2.2.2.2.2.2.2.2.2.2.2.2.2.2.2.2.2.2.2.2.2.2.2.2.2.2.2.2.2.2.2.2.2.2.2.2.2.2.2.2.2.2.2.2.2.2.2.1 x.2.2.2.2.2.2.2.2.2.2.2.2.2.2.2.2.2.2.2.2.2.2.2.2.2.2.2.2.2.2.2.2.2.2.2.2.2.2.2.2.2.2.2.2.2.2.2.2.1 x.2.2.2.2.2.2.2.2.2.2.2.2.2.2.2.2.2.2.2.2.2.2.2.2.2.2.2.2.2.2.2.2.2.2.2.2.2.2.2.2.2.2.2.2.2.2.2.2.2.1 x.2.2.2.2.2.2.2.2.2.2.2.2.2.2.2.2.2.2.2.2.2.2.2.2.2.2.2.2.2.2.2.2.2.2.2.2.2.2.2.2.2.2.2.2.2.2.2.2.2.2.1 x.2.2.2.2.2.2.2.2.2.2.2.2.2.2.2.2.2.2.2.2.2.2.2.2.2.2.2.2.2.2.2.2.2.2.2.2.2.2.2.2.2.2.2.2.2.2.2.2.2.2.2.1 x.2.2.2.2.2.2.2.2.2.2.2.2.2.2.2.2.2.2.2.2.2.2.2.2.2.2.2.2.2.2.2.2.2.2.2.2.2.2.2.2.2.2.2.2.2.2.2.2.2.2.2.2.1 x.2.2.2.2.2.2.2.2.2.2.2.2.2.2.2.2.2.2.2.2.2.2.2.2.2.2.2.2.2.2.2.2.2.2.2.2.2.2.2.2.2.2.2.2.2.2.2.2.2.2.2.2.2.1 x.2.2.2.2.2.2.2.2.2.2.2.2.2.2.2.2.2.2.2.2.2.2.2.2.2.2.2.2.2.2.2.2.2.2.2.2.2.2.2.2.2.2.2.2.2.2.2.2.2.2.2.2.2.2.1 x.2.2.2.2.2.2.2.2.2.2.2.2.2.2.2.2.2.2.2.2.2.2.2.2.2.2.2.2.2.2.2.2.2.2.2.2.2.2.2.2.2.2.2.2.2.2.2.2.2.2.2.2.2.2.2.1 x.2.2.2.2.2.2.2.2.2.2.2.2.2.2.2.2.2.2.2.2.2.2.2.2.2.2.2.2.2.2.2.2.2.2.2.2.2.2.2.2.2.2.2.2.2.2.2.2.2.2.2.2.2.2.2.2.1 x.2.2.2.2.2.2.2.2.2.2.2.2.2.2.2.2.2.2.2.2.2.2.2.2.2.2.2.2.2.2.2.2.2.2.2.2.2.2.2.2.2.2.2.2.2.2.2.2.2.2.2.2.2.2.2.2.2.1 x.2.2.2.2.2.2.2.2.2.2.2.2.2.2.2.2.2.2.2.2.2.2.2.2.2.2.2.2.2.2.2.2.2.2.2.2.2.2.2.2.2.2.2.2.2.2.2.2.2.2.2.2.2.2.2.2.2.2.1 x.2.2.2.2.2.2.2.2.2.2.2.2.2.2.2.2.2.2.2.2.2.2.2.2.2.2.2.2.2.2.2.2.2.2.2.2.2.2.2.2.2.2.2.2.2.2.2.2.2.2.2.2.2.2.2.2.2.2.2) (fun t x => x.1 = nI t ∧ CW (gos E pl pr t) facts x.2.1 locked rules x.2.2.1 x.2.2.2.1 sc metric x.2.2.2.2.1) (fun q : TE75 => q.1 = endV (gos E pl pr a) x1 ∧ q.2.2.2.2.2.2.2.2.2.2.2.2.2.2.2.2.2.2.2.2.2.2.2.2.2.2.2.2.2.2.2.2.2.2.2.2.2.2.2.2.2.2.2.2.2.2.2.2.2.2.2.2.2.2.2.2.2.2.2.2.2.2.2.2.2.2.2.2.2.2.2.2.2.2 = W) a (by
    rintro t ⟨x3, ro1, sz1, rw1, fx1, d1, d2, d3, d4, d5, d6, d7, d8, d9, d10, y1, y2, y3, y4, y5, y6, y7, y8, y9, y10, y11, y12, y13, y14, c1, c2, c3, c4, c5, m1, m2, m3, m4, m5, m6, m7, m8, m9, m10, n1, n2, n3, n4, n5, n6, n7, n8, n9, n10, tw, kd, gg, ca, cb, cc⟩ ht ⟨e1, e2⟩
    dsimp only at e1 e2
    subst e1
    obtain ⟨hG, hn⟩ := gos_GI hI ho t (by omega)
    obtain ⟨w, hw, ew, w2, w3⟩ := ho t ht
    have hgo : gos E pl pr (t + 1) = goE (gos E pl pr t) (nI w) (pr t) := by rw [gos_succ, ew]
    generalize gos E pl pr t = F at e2 hG hn hgo
    refine Or.inl ?_
    have hstep : ∀ k, b_X7_ends_45 x1 (nI a) pl pr facts locked rules k1 k2 k3 k4 k5 k6 k7 k8 k9 sc metric W k (nI t) ro1 sz1 rw1 fx1 d1 d2 d3 d4 d5 d6 d7 d8 d9 d10 y1 y2 y3 y4 y5 y6 y7 y8 y9 y10 y11 y12 y13 y14 c1 c2 c3 c4 c5 m1 m2 m3 m4 m5 m6 m7 m8 m9 m10 n1 n2 n3 n4 n5 n6 n7 n8 n9 n10 tw kd gg ca cb cc = b_X7_ends_45 x1 (nI a) pl pr facts locked rules k1 k2 k3 k4 k5 k6 k7 k8 k9 sc metric W k (nI t) ro1 sz1 rw1 fx1 d1 d2 d3 d4 d5 d6 d7 d8 d9 d10 y1 y2 y3 y4 y5 y6 y7 y8 y9 y10 y11 y12 y13 y14 c1 c2 c3 c4 c5 m1 m2 m3 m4 m5 m6 m7 m8 m9 m10 n1 n2 n3 n4 n5 n6 n7 n8 n9 n10 tw kd gg ca cb cc := fun _ => rfl
    have hr := rightAtC pr (show t < 8 by omega)
    have hl := leftAtC pl (show t < 8 by omega)
    rw [ew] at hl
    rcases (show w = 0 ∨ w = 1 ∨ w = 2 ∨ w = 3 by omega) with rfl | rfl | rfl | rfl
    · obtain ⟨z1, z2, z3, z4, z5, z6, z7, z8, z9, z10, z11, z12, z13, z14, f1, f2, f3, f4, f5, ro2, sz2, rw2, g1, g2, g3⟩ := fillC hG e2 y1 y2 y3 y4 y5 y6 y7 y8 y9 y10 y11 y12 y13 y14 c1 c2 c3 c4 c5
      refine ⟨(nI (t + 1), ro2, sz2, rw2, fx1, d1, d2, d3, d4, d5, d6, d7, d8, d9, d10, z1, z2, z3, z4, z5, z6, z7, z8, z9, z10, z11, z12, z13, z14, f1, f2, f3, f4, f5, m1, m2, m3, m4, m5, m6, m7, m8, m9, m10, n1, n2, n3, n4, n5, n6, n7, n8, n9, n10, tw, kd, gg, ca, cb, cc), ⟨rfl, ?_⟩, fun k => ?_⟩
      · rw [hgo]
        exact g3
      · show b_X7_ends_45 x1 (nI a) pl pr facts locked rules k1 k2 k3 k4 k5 k6 k7 k8 k9 sc metric W k (nI t) ro1 sz1 rw1 fx1 d1 d2 d3 d4 d5 d6 d7 d8 d9 d10 y1 y2 y3 y4 y5 y6 y7 y8 y9 y10 y11 y12 y13 y14 c1 c2 c3 c4 c5 m1 m2 m3 m4 m5 m6 m7 m8 m9 m10 n1 n2 n3 n4 n5 n6 n7 n8 n9 n10 tw kd gg ca cb cc = _
        unfold b_X7_ends_45
        simp only [lI, nI_add]
        rw [if_neg (nI_ge ht (by omega)), hr, Option.bind_some, hl, Option.bind_some, if_pos rfl, g1, Option.bind_some]
    · obtain ⟨⟨z1, z2, z3, z4, z5, z6, z7, z8, z9, z10, u1, u2, u3, u4, u5, u6, u7, u8, u9, u10, uw, c⟩, f1, f2⟩ := findC hG.1 e2 m1 m2 m3 m4 m5 m6 m7 m8 m9 m10 n1 n2 n3 n4 n5 n6 n7 n8 n9 n10 tw ca cb cc
      change encV F (bestF F) c at f1
      cases f : bestF F with
      | none =>
        rw [f] at f1
        have hc : c.1 = -nI 5 := f1.1
        have hp := performC0 (facts := facts) (ro := ro1) (locked := locked) (rules := rules) (sizes := sz1) (rows := rw1) (metric := metric) z1 z2 z3 z4 z5 z6 z7 z8 z9 z10 u1 u2 u3 u4 u5 u6 u7 u8 u9 u10 uw c.2.2.1 c.2.2.2.1 c.2.2.2.2
        refine ⟨(nI (t + 1), ro1, sz1, rw1, fx1, d1, d2, d3, d4, d5, d6, d7, d8, d9, d10, y1, y2, y3, y4, y5, y6, y7, y8, y9, y10, y11, y12, y13, y14, c1, c2, c3, c4, c5, z1, z2, z3, z4, z5, z6, z7, z8, z9, z10, u1, u2, u3, u4, u5, u6, u7, u8, u9, u10, uw, c), ⟨rfl, ?_⟩, fun k => ?_⟩
        · rw [hgo]
          show CW (bsE F) _ _ _ _ _ _ _ _ _
          rw [bsE_none f]
          exact e2
        · show b_X7_ends_45 x1 (nI a) pl pr facts locked rules k1 k2 k3 k4 k5 k6 k7 k8 k9 sc metric W k (nI t) ro1 sz1 rw1 fx1 d1 d2 d3 d4 d5 d6 d7 d8 d9 d10 y1 y2 y3 y4 y5 y6 y7 y8 y9 y10 y11 y12 y13 y14 c1 c2 c3 c4 c5 m1 m2 m3 m4 m5 m6 m7 m8 m9 m10 n1 n2 n3 n4 n5 n6 n7 n8 n9 n10 tw kd gg ca cb cc = _
          unfold b_X7_ends_45
          simp only [lI, nI_add]
          rw [if_neg (nI_ge ht (by omega)), hr, Option.bind_some, hl, Option.bind_some, if_neg h10_, if_pos rfl, f2, Option.bind_some]
          dsimp only
          rw [hc, hp, Option.bind_some]
          dsimp only
          rw [← hc]
      | some m =>
        rw [f] at f1
        have hc : c = (m.kd, m.gain F, m.a1, m.a2, m.a3) := f1
        subst hc
        obtain ⟨p1, p2, p3, p4, p5, p6, p7, p8, p9, p10, s1, s2, s3, s4, s5, s6, s7, s8, s9, s10, sw, ro', sizes', rows', g1, g2⟩ := performC hG e2 (best_ok f) z1 z2 z3 z4 z5 z6 z7 z8 z9 z10 u1 u2 u3 u4 u5 u6 u7 u8 u9 u10 uw
        refine ⟨(nI (t + 1), ro', sizes', rows', fx1, d1, d2, d3, d4, d5, d6, d7, d8, d9, d10, y1, y2, y3, y4, y5, y6, y7, y8, y9, y10, y11, y12, y13, y14, c1, c2, c3, c4, c5, p1, p2, p3, p4, p5, p6, p7, p8, p9, p10, s1, s2, s3, s4, s5, s6, s7, s8, s9, s10, sw, m.kd, m.gain F, m.a1, m.a2, m.a3), ⟨rfl, ?_⟩, fun k => ?_⟩
        · rw [hgo]
          show CW (bsE F) _ _ _ _ _ _ _ _ _
          rw [bsE_some f]
          exact g2
        · show b_X7_ends_45 x1 (nI a) pl pr facts locked rules k1 k2 k3 k4 k5 k6 k7 k8 k9 sc metric W k (nI t) ro1 sz1 rw1 fx1 d1 d2 d3 d4 d5 d6 d7 d8 d9 d10 y1 y2 y3 y4 y5 y6 y7 y8 y9 y10 y11 y12 y13 y14 c1 c2 c3 c4 c5 m1 m2 m3 m4 m5 m6 m7 m8 m9 m10 n1 n2 n3 n4 n5 n6 n7 n8 n9 n10 tw kd gg ca cb cc = _
          unfold b_X7_ends_45
          simp only [lI, nI_add]
          rw [if_neg (nI_ge ht (by omega)), hr, Option.bind_some, hl, Option.bind_some, if_neg h10_, if_pos rfl, f2, Option.bind_some]
          dsimp only
          rw [g1, Option.bind_some]
    · obtain ⟨p, hp, ep⟩ := w2 rfl
      rw [← hn] at hp
      obtain ⟨v, z1, z2, z3, z4, z5, z6, z7, z8, z9, z10, ro', sizes', rows', g1, g2⟩ := takeOutC hG.1 e2 hp d1 d2 d3 d4 d5 d6 d7 d8 d9 d10
      have hp16 : p < 16 := by have := hG.1.1; omega
      refine ⟨(nI (t + 1), ro', sizes', rows', fx1, z1, z2, z3, z4, z5, z6, z7, z8, z9, z10, y1, y2, y3, y4, y5, y6, y7, y8, y9, y10, y11, y12, y13, y14, c1, c2, c3, c4, c5, m1, m2, m3, m4, m5, m6, m7, m8, m9, m10, n1, n2, n3, n4, n5, n6, n7, n8, n9, n10, tw, kd, gg, ca, cb, cc), ⟨rfl, ?_⟩, fun k => ?_⟩
      · rw [hgo, ep]
        show CW (tkE F (nI p).toNatClampNeg) _ _ _ _ _ _ _ _ _
        rw [nI_clamp (by omega)]
        rcases g2 with ⟨g2, -, g3⟩ | ⟨g2, -, g3⟩
        · rw [tkE_t g2]; exact g3
        · rw [tkE_f g2]; exact g3
      · show b_X7_ends_45 x1 (nI a) pl pr facts locked rules k1 k2 k3 k4 k5 k6 k7 k8 k9 sc metric W k (nI t) ro1 sz1 rw1 fx1 d1 d2 d3 d4 d5 d6 d7 d8 d9 d10 y1 y2 y3 y4 y5 y6 y7 y8 y9 y10 y11 y12 y13 y14 c1 c2 c3 c4 c5 m1 m2 m3 m4 m5 m6 m7 m8 m9 m10 n1 n2 n3 n4 n5 n6 n7 n8 n9 n10 tw kd gg ca cb cc = _
        unfold b_X7_ends_45
        simp only [lI, nI_add]
        rw [if_neg (nI_ge ht (by omega)), hr, Option.bind_some, hl, Option.bind_some, if_neg (show ¬ nI 2 = nI 0 by decide), if_neg (show ¬ nI 2 = nI 1 by decide), if_pos rfl, ep, g1, Option.bind_some]
    · refine ⟨(nI (t + 1), ro1, sz1, rw1, pr t, d1, d2, d3, d4, d5, d6, d7, d8, d9, d10, y1, y2, y3, y4, y5, y6, y7, y8, y9, y10, y11, y12, y13, y14, c1, c2, c3, c4, c5, m1, m2, m3, m4, m5, m6, m7, m8, m9, m10, n1, n2, n3, n4, n5, n6, n7, n8, n9, n10, tw, kd, gg, ca, cb, cc), ⟨rfl, ?_⟩, fun k => ?_⟩
      · rw [hgo]
        show CW (eSetX F (pr t)) _ _ _ _ _ _ _ _ _
        exact ⟨e2.1, e2.2.1, rfl, e2.2.2.2.1, e2.2.2.2.2.1, e2.2.2.2.2.2.1, e2.2.2.2.2.2.2.1, e2.2.2.2.2.2.2.2⟩
      · show b_X7_ends_45 x1 (nI a) pl pr facts locked rules k1 k2 k3 k4 k5 k6 k7 k8 k9 sc metric W k (nI t) ro1 sz1 rw1 fx1 d1 d2 d3 d4 d5 d6 d7 d8 d9 d10 y1 y2 y3 y4 y5 y6 y7 y8 y9 y10 y11 y12 y13 y14 c1 c2 c3 c4 c5 m1 m2 m3 m4 m5 m6 m7 m8 m9 m10 n1 n2 n3 n4 n5 n6 n7 n8 n9 n10 tw kd gg ca cb cc = _
        unfold b_X7_ends_45
        simp only [lI, nI_add]
        rw [if_neg (nI_ge ht (by omega)), hr, Option.bind_some, hl, Option.bind_some, if_neg (show ¬ nI 3 = nI 0 by decide), if_neg (show ¬ nI 3 = nI 1 by decide), if_neg (show ¬ nI 3 = nI 2 by decide)]) (by
    rintro ⟨x3, ro1, sz1, rw1, fx1, d1, d2, d3, d4, d5, d6, d7, d8, d9, d10, y1, y2, y3, y4, y5, y6, y7, y8, y9, y10, y11, y12, y13, y14, c1, c2, c3, c4, c5, m1, m2, m3, m4, m5, m6, m7, m8, m9, m10, n1, n2, n3, n4, n5, n6, n7, n8, n9, n10, tw, kd, gg, ca, cb, cc⟩ ⟨e1, e2⟩
    dsimp only at e1 e2
    subst e1
    obtain ⟨hG, hn⟩ := gos_GI hI ho a (Nat.le_refl _)
    generalize gos E pl pr a = F at e2 hG hn
    refine ⟨(endV F x1, facts, ro1, locked, rules, sz1, rw1, k1, k2, k3, k4, k5, k6, k7, k8, k9, sc, metric, fx1, d1, d2, d3, d4, d5, d6, d7, d8, d9, d10, y1, y2, y3, y4, y5, y6, y7, y8, y9, y10, y11, y12, y13, y14, c1, c2, c3, c4, c5, m1, m2, m3, m4, m5, m6, m7, m8, m9, m10, n1, n2, n3, n4, n5, n6, n7, n8, n9, n10, tw, kd, gg, ca, cb, cc, W), ⟨rfl, rfl⟩, fun k => ?_⟩
    show b_X7_ends_45 x1 (nI a) pl pr facts locked rules k1 k2 k3 k4 k5 k6 k7 k8 k9 sc metric W k (nI a) ro1 sz1 rw1 fx1 d1 d2 d3 d4 d5 d6 d7 d8 d9 d10 y1 y2 y3 y4 y5 y6 y7 y8 y9 y10 y11 y12 y13 y14 c1 c2 c3 c4 c5 m1 m2 m3 m4 m5 m6 m7 m8 m9 m10 n1 n2 n3 n4 n5 n6 n7 n8 n9 n10 tw kd gg ca cb cc = _
    unfold b_X7_ends_45 endV
    simp only [lI]
    rw [if_pos (nI_le (Nat.le_refl _) (by omega)), (costC_eq hG.1 e2).2.2, e2.1, looseC_eq hG.1.1 e2.2.2.2.2.1, Option.bind_some, Option.bind_some]
    by_cases q : x1 = nI 0
    · rw [if_pos q, if_pos q]
    · rw [if_neg q, if_neg q]) fu (nI 0, ro, sizes, rows, fixed, d1, d2, d3, d4, d5, d6, d7, d8, d9, d10, y1, y2, y3, y4, y5, y6, y7, y8, y9, y10, y11, y12, y13, y14, c1, c2, c3, c4, c5, m1, m2, m3, m4, m5, m6, m7, m8, m9, m10, n1, n2, n3, n4, n5, n6, n7, n8, n9, n10, tw, kd, gg, ca, cb, cc) (by unfold fu; omega) ⟨rfl, h⟩
  exact ⟨q, h2, h1⟩
/-- one row of a plan in the reference -/
theorem goesM {F : ES} (hG : GI F) (hM : MW F s) {x y : Int32} (ho : okP (eN F) x y) (cs bs : Nat → Int32) (b w l br bp ba re : Int32) (mv : Nat → Int32) : ∃ s' z', f_X8_goes s cs bs b w l br bp ba re mv x y = some (s', z') ∧ MW (goE F x y) s' ∧ low s s' := by
  obtain ⟨u, hu, rfl, h2, h3⟩ := ho
  unfold f_X8_goes b_X8_goes_9 b_X8_goes_25 b_X8_goes_36
  simp only [lI]
  rcases (show u = 0 ∨ u = 1 ∨ u = 2 ∨ u = 3 by omega) with rfl | rfl | rfl | rfl
  · obtain ⟨s2, w1, w2, w3, w4, w5, w6, w7, w8, w9, g1, g2, g3⟩ := fillsM hG hM cs bs b w l br bp ba re
    rw [if_pos rfl, g1, Option.bind_some]
    dsimp only
    rw [if_neg (show ¬ nI 0 = nI 1 by decide), if_neg (show ¬ nI 0 = nI 2 by decide), if_neg (show ¬ nI 0 = nI 3 by decide)]
    exact ⟨s2, _, rfl, g2, g3⟩
  · obtain ⟨v, s2, z1, z2, z3, z4, z5, mv', g1, g2, g3, g4, g5⟩ := findsBestM hG.1 hM cs bs b w l mv
    rw [if_neg h10_, if_pos rfl, g1, Option.bind_some]
    dsimp only
    rcases g5 with ⟨f, rfl⟩ | ⟨m, f, rfl⟩
    · rw [if_pos rfl, if_neg (show ¬ nI 1 = nI 2 by decide), if_neg (show ¬ nI 1 = nI 3 by decide)]
      refine ⟨s2, _, rfl, ?_, g3⟩
      show MW (bsE F) s2
      rw [bsE_none f]
      exact g2
    · rw [f] at g4
      obtain ⟨s3, d1, d2, d3⟩ := doesBestM hG.1 g2 (best_ok f) g4
      rw [if_neg h10_, d1, Option.bind_some, if_neg (show ¬ nI 1 = nI 2 by decide), if_neg (show ¬ nI 1 = nI 3 by decide)]
      refine ⟨s3, _, rfl, ?_, g3.trans d3⟩
      show MW (bsE F) s3
      rw [bsE_some f]
      exact d2
  · obtain ⟨p, hp, rfl⟩ := h2 rfl
    have hp16 : p < 16 := by have := hG.1.1; omega
    obtain ⟨v, s2, z', g1, g2, g3⟩ := takeM hG.1 hM hp cs bs b w l
    rw [if_neg (show ¬ nI 2 = nI 0 by decide), if_neg (show ¬ nI 2 = nI 1 by decide), if_pos rfl, g1, Option.bind_some]
    dsimp only
    rw [if_neg (show ¬ nI 2 = nI 3 by decide)]
    refine ⟨s2, _, rfl, ?_, g2⟩
    show MW (tkE F (nI p).toNatClampNeg) s2
    rw [nI_clamp (by omega)]
    rcases g3 with ⟨g3, -, g4⟩ | ⟨g3, -, g4⟩
    · rw [tkE_t g3]; exact g4
    · rw [tkE_f g3]; exact g4
  · rw [if_neg (show ¬ nI 3 = nI 0 by decide), if_neg (show ¬ nI 3 = nI 1 by decide), if_neg (show ¬ nI 3 = nI 2 by decide), if_pos rfl, nI_clamp (show 3 < 2 ^ 31 by decide)]
    exact ⟨_, _, rfl, hM.setX hG.1 y, fun j h1 h2 => pk_un (by omega)⟩
abbrev TG11 : Type := (Nat → Int32) × (Nat → Int32) × (Nat → Int32) × Int32 × Int32 × Int32 × Int32 × Int32 × Int32 × Int32 × (Nat → Int32)
abbrev TG14 : Type := Int32 × (Nat → Int32) × (Nat → Int32) × Int32 × (Nat → Int32) × (Nat → Int32) × Int32 × Int32 × Int32 × Int32 × Int32 × Int32 × Int32 × (Nat → Int32)
theorem endsM (hI : GI E) (hM : MW E s) {pl pr : Nat → Int32} {a : Nat} (ha : a ≤ 8) (ho : ∀ i, i < a → okP (eN E) (pl i) (pr i)) (hs6 : s 6 = nI a) (hsp : ∀ i, i < a → s (18 + 2 * i) = pl i ∧ s (18 + 2 * i + 1) = pr i) {mind : Nat → Int32} (hmi : ∀ i, i < 258 → mind i = s i) (x1 W : Int32) (cs bs : Nat → Int32) (b w l br bp ba re : Int32) (mv : Nat → Int32) : ∃ s' z', l_X8_ends_41 x1 mind W (nI 0, s, cs, bs, b, w, l, br, bp, ba, re, mv) = some (endV (gos E pl pr a) x1, s', mind, W, z') ∧ MW E s' ∧ low s s' := by
  have hB := hI.1
  have e6 : (nI 6).toNatClampNeg = 6 := nI_clamp (by decide)
  unfold l_X8_ends_41
  obtain ⟨⟨v, s', m', W', z'⟩, ⟨h1, h2, h3, h4, h5⟩, h6⟩ := lp_inv (F := fun k (x : Int32 × TG11) => b_X8_ends_41 x1 mind W k x.1 x.2.1 x.2.2.1 x.2.2.2.1 x.2.2.2.2.1 x.2.2.2.2.2.1 x.2.2.2.2.2.2.1 x.2.2.2.2.2.2.2.1 x.2.2.2.2.2.2.2.2.1 x.2.2.2.2.2.2.2.2.2.1 x.2.2.2.2.2.2.2.2.2.2.1 x.2.2.2.2.2.2.2.2.2.2.2) (fun t x => x.1 = nI t ∧ MW (gos E pl pr t) x.2.1 ∧ low s x.2.1) (fun q : TG14 => q.1 = endV (gos E pl pr a) x1 ∧ MW E q.2.1 ∧ low s q.2.1 ∧ q.2.2.1 = mind ∧ q.2.2.2.1 = W) a (by
    rintro t ⟨x2, s1, cs, bs, b, w, l, br, bp, ba, re, mv⟩ ht ⟨e1, e2, e3⟩
    dsimp only at e1 e2 e3
    subst e1
    obtain ⟨hG, hn⟩ := gos_GI hI ho t (by omega)
    obtain ⟨s2, z2, g1, g2, g3⟩ := goesM hG e2 (x := pl t) (y := pr t) (by rw [hn]; exact ho t ht) cs bs b w l br bp ba re mv
    refine Or.inl ⟨(nI (t + 1), s2, z2), ⟨rfl, g2, e3.trans g3⟩, fun k => ?_⟩
    show b_X8_ends_41 x1 mind W k (nI t) s1 cs bs b w l br bp ba re mv = _
    unfold b_X8_ends_41
    simp only [lI, pk_mul, nI_add]
    rw [e6, e3 6 (by decide) (by decide), hs6, if_neg (nI_ge ht (by omega)), gI_n (by omega) (by decide), gI_n (by omega) (by decide), nI_clamp (by omega), nI_clamp (by omega), e3 (18 + 2 * t) (by omega) (by omega), e3 (18 + 2 * t + 1) (by omega) (by omega), (hsp t ht).1, (hsp t ht).2, g1, Option.bind_some]) (by
    rintro ⟨x2, s1, cs, bs, b, w, l, br, bp, ba, re, mv⟩ ⟨e1, e2, e3⟩
    dsimp only at e1 e2 e3
    subst e1
    obtain ⟨hG, hn⟩ := gos_GI hI ho a (Nat.le_refl _)
    obtain ⟨s3, c1, c2⟩ := copies_eq (n := 258) (by decide) mind s1
    have hs3 : ∀ i, i < 258 → s3 i = s i := fun i hi => by rw [c2 i hi, hmi i hi]
    refine ⟨(endV (gos E pl pr a) x1, s3, mind, W, cs, bs, b, w, l, br, bp, ba, re, mv), ⟨rfl, MW.copy hB.1 (fun r hr => hB.len hr) hM hs3, fun j h3 h4 => hs3 j (by omega), rfl, rfl⟩, fun k => ?_⟩
    show b_X8_ends_41 x1 mind W k (nI a) s1 cs bs b w l br bp ba re mv = _
    unfold b_X8_ends_41 b_X8_ends_101 endV
    simp only [lI]
    rw [e6, e3 6 (by decide) (by decide), hs6, if_pos (nI_le (Nat.le_refl _) (by omega)), costM hG.1 e2, looseM_eq hG.1 e2, c1]
    simp only [Option.bind_some]
    by_cases q : x1 = nI 0
    · rw [if_pos q, if_pos q]
    · rw [if_neg q, if_neg q]) fu (nI 0, s, cs, bs, b, w, l, br, bp, ba, re, mv) (by unfold fu; omega) ⟨rfl, hM, low.refl s⟩
  dsimp only at h1 h2 h3 h4 h5
  subst h1 h4 h5
  exact ⟨s', z', h6, h2, h3⟩
theorem ends_both {sl sr pl pr bl br : Nat → Int32} {ss ps bs : Int32} (hI : GI E) (h : CW E facts ro locked rules sizes rows sc metric fixed) (hM : MW E s) (hP : PS (eN E) sl sr ss pl pr ps bl br bs s) {W : Nat} (hW : W ≤ 1500) (t1 t2 t3 t4 t5 t6 t7 t8 : Nat → Int32) (t9 : Int32) (t10 t11 : Nat → Int32) (t12 : Int32) (t13 t14 : Nat → Int32) (t15 t16 t17 t18 : Int32) (d1 d2 d3 : Nat → Int32) (d4 d5 d6 d7 d8 d9 d10 : Int32) (y1 y2 y3 : Nat → Int32) (y4 y5 y6 y7 y8 y9 y10 y11 y12 y13 y14 c1 c2 c3 c4 c5 : Int32) (m1 m2 m3 : Nat → Int32) (m4 m5 m6 m7 m8 m9 m10 : Int32) (n1 n2 n3 : Nat → Int32) (n4 n5 n6 n7 n8 n9 n10 tw kd gg ca cb cc : Int32) (mind cs2 bs2 : Nat → Int32) (b2 w2 l2 br2 bp2 ba2 re2 : Int32) (mv : Nat → Int32) (x1 : Int32) : ∃ W' v, ∃ (q : TE75), ∃ s' m' z', f_X7_ends facts ro locked rules sizes rows sl sr ss pl pr ps bl br bs sc metric fixed t1 t2 t3 t4 t5 t6 t7 t8 t9 t10 t11 t12 t13 t14 t15 t16 t17 t18 d1 d2 d3 d4 d5 d6 d7 d8 d9 d10 y1 y2 y3 y4 y5 y6 y7 y8 y9 y10 y11 y12 y13 y14 c1 c2 c3 c4 c5 m1 m2 m3 m4 m5 m6 m7 m8 m9 m10 n1 n2 n3 n4 n5 n6 n7 n8 n9 n10 tw kd gg ca cb cc (nI W) x1 = some q ∧ q.1 = v ∧ q.2.2.2.2.2.2.2.2.2.2.2.2.2.2.2.2.2.2.2.2.2.2.2.2.2.2.2.2.2.2.2.2.2.2.2.2.2.2.2.2.2.2.2.2.2.2.2.2.2.2.2.2.2.2.2.2.2.2.2.2.2.2.2.2.2.2.2.2.2.2.2.2.2.2 = nI W' ∧ f_X8_ends s mind (nI W) cs2 bs2 b2 w2 l2 br2 bp2 ba2 re2 mv x1 = some (v, s', m', nI W', z') ∧ MW E s' ∧ low s s' ∧ W' ≤ 1500 := by
  have hB := hI.1
  have e6 : (nI 6).toNatClampNeg = 6 := nI_clamp (by decide)
  obtain ⟨-, ⟨a, ha, a1, a2, a3⟩, -, -, h5, -⟩ := hP
  have ho : ∀ i, i < a → okP (eN E) (pl i) (pr i) := fun i hi => h5 i (by omega) (by rw [a1]; exact nI_lt hi (by omega))
  unfold f_X7_ends f_X8_ends
  simp only [lI]
  rw [isUpTo_isIn]
  rcases isIn_eq x1 1 (by decide) with ⟨n, hn, rfl, e3⟩ | ⟨-, e3⟩
  rotate_left
  · rw [e3, Option.bind_some, Option.bind_some, if_pos rfl, if_pos rfl]
    exact ⟨W, _, _, s, mind, _, rfl, rfl, rfl, rfl, hM, low.refl s, hW⟩
  rw [e3, Option.bind_some, Option.bind_some, if_neg h10_, if_neg h10_, e6, a2, a1]
  rcases spend_eq hW (show a ≤ 1500 by omega) with ⟨hw, w1, w3⟩ | ⟨hw, w1, w3⟩
  rotate_left
  · rw [w1, w3, Option.bind_some, Option.bind_some]
    dsimp only
    rw [if_pos rfl, if_pos rfl]
    exact ⟨W, _, _, s, mind, _, rfl, rfl, rfl, rfl, hM, low.refl s, hW⟩
  rw [w1, w3, Option.bind_some, Option.bind_some]
  dsimp only
  rw [if_neg h10_, if_neg h10_]
  obtain ⟨facts1, ro1, lk1, ru1, sz1, rw1, sl1, sr1, pl1, pr1, bl1, br1, cp1, cp2, -⟩ := copyFromC hB h t1 t2 t3 t4 t5 t6 t7 t8 t10 t11 t13 t14 sl sr pl pr bl br ss (nI a) bs
  obtain ⟨mind', m1', m2'⟩ := copies_eq (n := 258) (by decide) s mind
  obtain ⟨q, f1, f2, f3⟩ := endsC hI cp2 ha ho (nI n) sl1 sr1 pl1 pr1 bl1 br1 ss (nI a) bs (nI (W + a)) d1 d2 d3 d4 d5 d6 d7 d8 d9 d10 y1 y2 y3 y4 y5 y6 y7 y8 y9 y10 y11 y12 y13 y14 c1 c2 c3 c4 c5 m1 m2 m3 m4 m5 m6 m7 m8 m9 m10 n1 n2 n3 n4 n5 n6 n7 n8 n9 n10 tw kd gg ca cb cc
  obtain ⟨s', z', g1, g2, g3⟩ := endsM hI hM ha ho a2 a3 m2' (nI n) (nI (W + a)) cs2 bs2 b2 w2 l2 br2 bp2 ba2 re2 mv
  rw [cp1, Option.bind_some, m1', Option.bind_some]
  dsimp only
  exact ⟨_, _, q, s', mind', z', f1, f2, f3, g1, g2, g3, hw⟩
end ENDS
