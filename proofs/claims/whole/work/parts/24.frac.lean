/-! PURE: fractions, boxes, cuts -/
theorem fr_tr {a b c d e f : Int} (hb : 0 < b) (hd : 0 < d) (hf : 0 < f) (h1 : a * d ≤ c * b) (h2 : c * f ≤ e * d) : a * f ≤ e * b := by
  have x1 : a * d * f ≤ c * b * f := Int.mul_le_mul_of_nonneg_right h1 (by omega)
  have x2 : c * f * b ≤ e * d * b := Int.mul_le_mul_of_nonneg_right h2 (by omega)
  have y1 : a * d * f = a * f * d := by ac_rfl
  have y2 : c * b * f = c * f * b := by ac_rfl
  have y3 : e * d * b = e * b * d := by ac_rfl
  exact Int.le_of_mul_le_mul_right (a := d) (by omega) hd
theorem fr_trl {a b c d e f : Int} (hb : 0 < b) (hd : 0 < d) (hf : 0 < f) (h1 : a * d < c * b) (h2 : c * f ≤ e * d) : a * f < e * b := by
  have x1 : a * d * f < c * b * f := Int.mul_lt_mul_of_pos_right h1 hf
  have x2 : c * f * b ≤ e * d * b := Int.mul_le_mul_of_nonneg_right h2 (by omega)
  have y1 : a * d * f = a * f * d := by ac_rfl
  have y2 : c * b * f = c * f * b := by ac_rfl
  have y3 : e * d * b = e * b * d := by ac_rfl
  exact Int.lt_of_mul_lt_mul_right (a := d) (by omega) (by omega)
/-- the greater period has no more turns -/
theorem fr_mono {A s u u2 P Q P2 Q2 : Int} (hP : 0 < P) (hQ : 0 < Q) (hQ2 : 0 < Q2) (hu : 0 ≤ u2) (hpp : P2 * Q ≤ P * Q2) (h1 : u * P ≤ (A + s) * Q) (h2 : (A - s) * Q2 ≤ u2 * P2) (h3 : 2 * s * Q2 < P2) : u ≤ u2 := by
  refine Decidable.byContradiction (fun hc => ?_)
  have x1 : u * P * Q2 ≤ (A + s) * Q * Q2 := Int.mul_le_mul_of_nonneg_right h1 (by omega)
  have x4 : (A - s) * Q2 * Q ≤ u2 * P2 * Q := Int.mul_le_mul_of_nonneg_right h2 (by omega)
  have x5 : 2 * s * Q2 * Q < P2 * Q := Int.mul_lt_mul_of_pos_right h3 hQ
  have hb : 0 < P * Q2 := Int.mul_pos hP hQ2
  have x2 : (u2 + 1) * (P * Q2) ≤ u * (P * Q2) := Int.mul_le_mul_of_nonneg_right (by omega) (by omega)
  have x3 : (u2 + 1) * (P2 * Q) ≤ (u2 + 1) * (P * Q2) := Int.mul_le_mul_of_nonneg_left hpp (by omega)
  rw [Int.add_mul, Int.one_mul] at x3
  have y1 : u * P * Q2 = u * (P * Q2) := by ac_rfl
  have y2 : u2 * P2 * Q = u2 * (P2 * Q) := by ac_rfl
  have y3 : (A - s) * Q2 * Q + 2 * s * Q2 * Q = (A + s) * Q * Q2 := by
    have z1 : (A - s) * Q2 * Q = (A - s) * (Q * Q2) := by ac_rfl
    have z2 : 2 * s * Q2 * Q = (2 * s) * (Q * Q2) := by ac_rfl
    have z3 : (A + s) * Q * Q2 = (A + s) * (Q * Q2) := by ac_rfl
    rw [z1, z2, z3, ← Int.add_mul]
    congr 1
    omega
  omega
abbrev zB : Type := Int × Int × Int × Int
/-- the upper, the lower number of the least period, those of the greatest -/
def bcut (b : zB) (ap s tr : Int) : zB := (if (ap - s) * b.2.1 ≤ b.1 * tr then b.1 else ap - s, if (ap - s) * b.2.1 ≤ b.1 * tr then b.2.1 else tr, if (ap + s) * b.2.2.2 < b.2.2.1 * tr then ap + s else b.2.2.1, if (ap + s) * b.2.2.2 < b.2.2.1 * tr then tr else b.2.2.2)
def bemp (b : zB) : Bool := decide (b.2.2.1 * b.2.1 < b.1 * b.2.2.2)
/-- its numbers are above 0, and no greater than here -/
def bok (b : zB) : Prop := 0 < b.1 ∧ b.1 ≤ 4000 ∧ 0 < b.2.1 ∧ b.2.1 ≤ 400 ∧ 0 < b.2.2.1 ∧ b.2.2.1 ≤ 4000 ∧ 0 < b.2.2.2 ∧ b.2.2.2 ≤ 400
/-- b2 lies within b -/
def bsub (b2 b : zB) : Prop := b.1 * b2.2.1 ≤ b2.1 * b.2.1 ∧ b2.2.2.1 * b.2.2.2 ≤ b.2.2.1 * b2.2.2.2
/-- the turns fit every period of b -/
def bfit (b : zB) (ap s tr : Int) : Prop := (ap - s) * b.2.1 ≤ b.1 * tr ∧ b.2.2.1 * tr ≤ (ap + s) * b.2.2.2
theorem bsub_rf (b : zB) : bsub b b := ⟨Int.le_refl _, Int.le_refl _⟩
theorem bsub_tr {a b c : zB} (ha : bok a) (hb : bok b) (hc : bok c) (h1 : bsub a b) (h2 : bsub b c) : bsub a c := by
  obtain ⟨a1, -, a2, -, a3, -, a4, -⟩ := ha
  obtain ⟨b1, -, b2, -, b3, -, b4, -⟩ := hb
  obtain ⟨c1, -, c2, -, c3, -, c4, -⟩ := hc
  exact ⟨fr_tr c2 b2 a2 h2.1 h1.1, fr_tr a4 b4 c4 h1.2 h2.2⟩
theorem bcut_ok {b : zB} {ap s tr : Int} (hb : bok b) (hs : 0 ≤ s) (ha : 0 ≤ ap) (hz : ap + s ≤ 4000) (ht : 0 < tr) (ht4 : tr ≤ 400) (hp : 0 < ap + s) : bok (bcut b ap s tr) ∧ bsub (bcut b ap s tr) b ∧ bfit (bcut b ap s tr) ap s tr := by
  obtain ⟨a1, a2, a3, a4, a5, a6, a7, a8⟩ := hb
  have hpos := Int.mul_pos a1 ht
  by_cases h1 : (ap - s) * b.2.1 ≤ b.1 * tr
  · by_cases h2 : (ap + s) * b.2.2.2 < b.2.2.1 * tr
    · simp only [bcut, bok, bsub, bfit, if_pos h1, if_pos h2]
      exact ⟨⟨a1, a2, a3, a4, hp, hz, ht, ht4⟩, ⟨Int.le_refl _, Int.le_of_lt h2⟩, h1, Int.le_refl _⟩
    · simp only [bcut, bok, bsub, bfit, if_pos h1, if_neg h2]
      exact ⟨⟨a1, a2, a3, a4, a5, a6, a7, a8⟩, ⟨Int.le_refl _, Int.le_refl _⟩, h1, by omega⟩
  · have hq : 0 < ap - s := by
      refine Decidable.byContradiction (fun hc => ?_)
      have : (ap - s) * b.2.1 ≤ 0 := Int.mul_nonpos_of_nonpos_of_nonneg (by omega) (by omega)
      omega
    by_cases h2 : (ap + s) * b.2.2.2 < b.2.2.1 * tr
    · simp only [bcut, bok, bsub, bfit, if_neg h1, if_pos h2]
      exact ⟨⟨hq, by omega, ht, ht4, hp, hz, ht, ht4⟩, ⟨by omega, Int.le_of_lt h2⟩, Int.le_refl _, Int.le_refl _⟩
    · simp only [bcut, bok, bsub, bfit, if_neg h1, if_neg h2]
      exact ⟨⟨hq, by omega, ht, ht4, a5, a6, a7, a8⟩, ⟨by omega, Int.le_refl _⟩, Int.le_refl _, by omega⟩
theorem bfit_sub {a b : zB} {ap s tr : Int} (ha : bok a) (hb : bok b) (ht : 0 < tr) (h : bsub a b) (hf : bfit b ap s tr) : bfit a ap s tr := by
  obtain ⟨a1, -, a2, -, a3, -, a4, -⟩ := ha
  obtain ⟨b1, -, b2, -, b3, -, b4, -⟩ := hb
  refine ⟨?_, ?_⟩
  · have x := fr_tr (a := ap - s) (b := tr) (c := b.1) (d := b.2.1) (e := a.1) (f := a.2.1) ht b2 a2 hf.1 h.1
    exact x
  · have x := fr_tr (a := a.2.2.1) (b := a.2.2.2) (c := b.2.2.1) (d := b.2.2.2) (e := ap + s) (f := tr) a4 b4 ht h.2 hf.2
    exact x
theorem bemp_sub {a b : zB} (ha : bok a) (hb : bok b) (h : bsub a b) (he : bemp b = true) : bemp a = true := by
  obtain ⟨a1, -, a2, -, a3, -, a4, -⟩ := ha
  obtain ⟨b1, -, b2, -, b3, -, b4, -⟩ := hb
  unfold bemp at he ⊢
  have he := of_decide_eq_true he
  refine decide_eq_true ?_
  have x := fr_trl (a := b.2.2.1) (b := b.2.2.2) (c := b.1) (d := b.2.1) (e := a.1) (f := a.2.1) b4 b2 a2 he h.1
  have y : a.2.2.1 * a.2.1 < a.1 * a.2.2.2 := by
    have x1 : a.2.2.1 * b.2.2.2 * a.2.1 ≤ b.2.2.1 * a.2.2.2 * a.2.1 := Int.mul_le_mul_of_nonneg_right h.2 (by omega)
    have x2 : b.2.2.1 * a.2.1 * a.2.2.2 < a.1 * b.2.2.2 * a.2.2.2 := Int.mul_lt_mul_of_pos_right x a4
    have y1 : a.2.2.1 * b.2.2.2 * a.2.1 = a.2.2.1 * a.2.1 * b.2.2.2 := by ac_rfl
    have y2 : b.2.2.1 * a.2.2.2 * a.2.1 = b.2.2.1 * a.2.1 * a.2.2.2 := by ac_rfl
    have y3 : a.1 * b.2.2.2 * a.2.2.2 = a.1 * a.2.2.2 * b.2.2.2 := by ac_rfl
    exact Int.lt_of_mul_lt_mul_right (a := b.2.2.2) (by omega) (by omega)
  exact y
