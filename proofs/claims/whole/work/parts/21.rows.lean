/-! PURE: arrivals in rows -/
theorem t_mono {z : Int} {T : Nat → Int} (h : ∀ k : Nat, (k : Int) + 1 < z → T k < T (k + 1)) : ∀ (d i : Nat), ((i + d + 1 : Nat) : Int) < z → T i < T (i + d + 1) := by
  intro d
  induction d with
  | zero => intro i hi; exact h i (by omega)
  | succ d ih =>
    intro i hi
    have h1 := ih i (by omega)
    have h2 := h (i + d + 1) (by omega)
    have e : i + (d + 1) + 1 = i + d + 1 + 1 := by omega
    rw [e]
    omega
theorem t_lt {z : Int} {T : Nat → Int} (h : ∀ k : Nat, (k : Int) + 1 < z → T k < T (k + 1)) {i j : Nat} (hij : i < j) (hj : (j : Int) < z) : T i < T j := by
  have := t_mono h (j - i - 1) i (by omega)
  rw [show i + (j - i - 1) + 1 = j by omega] at this
  exact this
theorem e_hears {p1 az : Int} {T : Nat → Int} (hp : zR p1) (h0 : 0 ≤ az) (h7 : az ≤ 7) (hT : ∀ k : Nat, (k : Int) < az → zR (T k)) : ∃ r, f_X1_hears p1 az T = some r ∧ ((r = 1 ∧ ∃ k : Nat, (k : Int) < az ∧ T k = p1) ∨ (r = 0 ∧ ∀ k : Nat, (k : Int) < az → T k ≠ p1)) := by
  obtain ⟨hp1, hp2⟩ := hp
  unfold f_X1_hears
  exact zwhile (st := st_X1_hears p1 az T) (fun x => 0 ≤ x ∧ x ≤ az ∧ ∀ k : Nat, (k : Int) < x → T k ≠ p1) (fun x => (az - x).toNat) (fun r => (r = 1 ∧ ∃ k : Nat, (k : Int) < az ∧ T k = p1) ∨ (r = 0 ∧ ∀ k : Nat, (k : Int) < az → T k ≠ p1)) (by
    rintro x ⟨hx0, hx7, hx⟩
    by_cases h : x < az
    · obtain ⟨g1, g2⟩ := hT x.toNat (by omega)
      by_cases e : T x.toNat = p1
      · exact Or.inl ⟨1, by simp (disch := omega) only [st_X1_hears, gd_t, if_pos], Or.inl ⟨rfl, x.toNat, by omega, e⟩⟩
      · refine Or.inr ⟨x + 1, by simp (disch := omega) only [st_X1_hears, gd_t, if_pos, if_neg], ⟨by omega, by omega, fun k hk => ?_⟩, by omega⟩
        by_cases e2 : k = x.toNat
        · rw [e2]; exact e
        · exact hx k (by omega)
    · exact Or.inl ⟨0, by simp (disch := omega) only [st_X1_hears, gd_t, if_neg], Or.inr ⟨rfl, fun k hk => hx k (by omega)⟩⟩) 0 ⟨by omega, h0, fun k hk => by omega⟩
theorem e_placeOf {p1 : Int} {R : Nat → Int} (hp : zR p1) (h0 : 0 ≤ R 0) (h7 : R 0 ≤ 7) (hT : ∀ k : Nat, (k : Int) < R 0 → zR (R (4 + k))) : ∃ r, f_X7_placeOf p1 R = some r ∧ ∃ q : Nat, (q : Int) ≤ R 0 ∧ (∀ k : Nat, k < q → R (4 + k) < p1) ∧ (((q : Int) < R 0 ∧ R (4 + q) = p1 ∧ r = (q : Int)) ∨ (((q : Int) < R 0 → p1 < R (4 + q)) ∧ r = -1 - (q : Int))) := by
  obtain ⟨hp1, hp2⟩ := hp
  unfold f_X7_placeOf
  exact zwhile (st := st_X7_placeOf p1 R) (fun x => 0 ≤ x ∧ x ≤ R 0 ∧ ∀ k : Nat, (k : Int) < x → R (4 + k) < p1) (fun x => (R 0 - x).toNat) (fun r => ∃ q : Nat, (q : Int) ≤ R 0 ∧ (∀ k : Nat, k < q → R (4 + k) < p1) ∧ (((q : Int) < R 0 ∧ R (4 + q) = p1 ∧ r = (q : Int)) ∨ (((q : Int) < R 0 → p1 < R (4 + q)) ∧ r = -1 - (q : Int)))) (by
    rintro x ⟨hx0, hx7, hx⟩
    have e4 : (4 + x).toNat = 4 + x.toNat := by omega
    by_cases h : x < R 0
    · obtain ⟨g1, g2⟩ := hT x.toNat (by omega)
      rw [← e4] at g1 g2
      by_cases e : R (4 + x).toNat < p1
      · refine Or.inr ⟨x + 1, by simp (disch := omega) only [st_X7_placeOf, gd_t, if_pos], ⟨by omega, by omega, fun k hk => ?_⟩, by omega⟩
        by_cases e2 : k = x.toNat
        · rw [e2, ← e4]; exact e
        · exact hx k (by omega)
      · by_cases e2 : R (4 + x).toNat = p1
        · refine Or.inl ⟨x, by simp (disch := omega) only [st_X7_placeOf, gd_t, if_pos, if_neg], x.toNat, by omega, fun k hk => hx k (by omega), Or.inl ⟨by omega, by rw [← e4]; exact e2, by omega⟩⟩
        · refine Or.inl ⟨-1 - x, by simp (disch := omega) only [st_X7_placeOf, gd_t, if_pos, if_neg], x.toNat, by omega, fun k hk => hx k (by omega), Or.inr ⟨fun _ => by rw [← e4]; omega, by omega⟩⟩
    · refine Or.inl ⟨-1 - x, by simp (disch := omega) only [st_X7_placeOf, gd_t, if_neg], x.toNat, by omega, fun k hk => hx k (by omega), Or.inr ⟨fun _ => by omega, by omega⟩⟩) 0 ⟨by omega, h0, fun k hk => by omega⟩
/-- a time comes in at place q -/
def zIns (z : Int) (T : Nat → Int) (t : Int) (q : Nat) (T2 : Nat → Int) : Prop := (q : Int) ≤ z ∧ (∀ k : Nat, k < q → T2 k = T k) ∧ T2 q = t ∧ (∀ k : Nat, q ≤ k → (k : Int) < z → T2 (k + 1) = T k)
theorem e_place {p1 az : Int} {T : Nat → Int} (hp : zR p1) (h0 : 0 ≤ az) (h7 : az ≤ 6) (hT : ∀ k : Nat, (k : Int) < az → zR (T k)) : ∃ (q : Nat) (T2 : Nat → Int), f_X1_place p1 az T = some ((q : Int), az + 1, T2) ∧ zIns az T p1 q T2 ∧ (∀ k : Nat, q ≤ k → (k : Int) < az → p1 < T k) ∧ (0 < q → T (q - 1) ≤ p1) := by
  obtain ⟨hp1, hp2⟩ := hp
  have e0 : f_X1_place p1 az T = zev (st_X1_place p1) (az, az - 1, az, T) := by simp (disch := omega) only [f_X1_place, gd_t, if_pos, zlt_t]
  rw [e0]
  obtain ⟨r, e, q, T2, h1, h2, h3, h4⟩ := zwhile (st := st_X1_place p1) (fun v => v.1 = v.2.1 + 1 ∧ 0 ≤ v.1 ∧ v.1 ≤ az ∧ v.2.2.1 = az ∧ (∀ k : Nat, (k : Int) < v.1 → v.2.2.2 k = T k) ∧ (∀ k : Nat, v.1 ≤ (k : Int) → (k : Int) < az → v.2.2.2 (k + 1) = T k ∧ p1 < T k)) (fun v => v.1.toNat) (fun r => ∃ (q : Nat) (T2 : Nat → Int), r = ((q : Int), az + 1, T2) ∧ zIns az T p1 q T2 ∧ (∀ k : Nat, q ≤ k → (k : Int) < az → p1 < T k) ∧ (0 < q → T (q - 1) ≤ p1)) (by
    rintro ⟨x, y, z, S⟩ ⟨g1, g2, g3, g4, g5, g6⟩
    dsimp only at g1 g2 g3 g4 g5 g6
    subst g1
    subst g4
    have fin : zIns z T p1 (y + 1).toNat (zup S (y + 1) p1) := by
      refine ⟨by omega, fun k hk => ?_, zup_s rfl, fun k hk1 hk2 => ?_⟩
      · rw [zup_n (by omega)]; exact g5 k (by omega)
      · rw [zup_n (by omega)]; exact (g6 k (by omega) hk2).1
    by_cases h : y < 0
    · refine Or.inl ⟨(y + 1, z + 1, zup S (y + 1) p1), by simp (disch := omega) only [st_X1_place, gd_t, if_pos], (y + 1).toNat, _, by rw [show ((y + 1).toNat : Int) = y + 1 by omega], fin, fun k hk1 hk2 => (g6 k (by omega) hk2).2, fun hq => by omega⟩
    · have ey := g5 y.toNat (by omega)
      obtain ⟨k1, k2⟩ := hT y.toNat (by omega)
      rw [← ey] at k1 k2
      by_cases h2 : S y.toNat ≤ p1
      · refine Or.inl ⟨(y + 1, z + 1, zup S (y + 1) p1), by simp (disch := omega) only [st_X1_place, gd_t, if_pos, if_neg], (y + 1).toNat, _, by rw [show ((y + 1).toNat : Int) = y + 1 by omega], fin, fun k hk1 hk2 => (g6 k (by omega) hk2).2, fun hq => by rw [show (y + 1).toNat - 1 = y.toNat by omega, ← ey]; exact h2⟩
      · refine Or.inr ⟨(y, y + -1, z, zup S (y + 1) (S y.toNat)), by simp (disch := omega) only [st_X1_place, gd_t, if_neg], ⟨by show y = y + -1 + 1; omega, by show 0 ≤ y; omega, by show y ≤ z; omega, rfl, fun k hk => ?_, fun k hk1 hk2 => ?_⟩, by show y.toNat < (y + 1).toNat; omega⟩
        · have hk : (k : Int) < y := hk
          show zup S (y + 1) (S y.toNat) k = T k
          rw [zup_n (by omega)]; exact g5 k (by omega)
        · have hk1 : y ≤ (k : Int) := hk1
          show zup S (y + 1) (S y.toNat) (k + 1) = T k ∧ p1 < T k
          by_cases e2 : k = y.toNat
          · subst e2
            rw [zup_s (by omega)]
            exact ⟨ey, by omega⟩
          · rw [zup_n (by omega)]
            exact g6 k (by omega) hk2) (az, az - 1, az, T) ⟨by show az = az - 1 + 1; omega, h0, by show az ≤ az; omega, rfl, fun k hk => rfl, fun k hk1 hk2 => by exfalso; have : az ≤ (k : Int) := hk1; omega⟩
  exact ⟨q, T2, by rw [e, h1], h2, h3, h4⟩
theorem e_put {p1 : Int} {R : Nat → Int} (hp : zR p1) (h0 : 0 ≤ R 0) (h7 : R 0 ≤ 6) (hT : ∀ k : Nat, (k : Int) < R 0 → zR (R (4 + k))) (hne : ∀ k : Nat, (k : Int) < R 0 → R (4 + k) ≠ p1) : ∃ (R2 : Nat → Int) (q : Nat), f_X7_put p1 R = some R2 ∧ R2 0 = R 0 + 1 ∧ R2 1 = R 1 ∧ R2 2 = R 2 ∧ R2 3 = R 3 ∧ zIns (R 0) (fun k => R (4 + k)) p1 q (fun k => R2 (4 + k)) ∧ (∀ k : Nat, k < q → R (4 + k) < p1) ∧ ((q : Int) < R 0 → p1 < R (4 + q)) := by
  obtain ⟨r, er, q, hq1, hq2, hq3⟩ := e_placeOf hp h0 (by omega) hT
  obtain ⟨hp1, hp2⟩ := hp
  rcases hq3 with ⟨a1, a2, -⟩ | ⟨hq3, hr⟩
  · exact absurd a2 (hne q a1)
  subst hr
  have e0 : f_X7_put p1 R = zev (st_X7_put p1) ((q : Int), R 0, R) := by
    unfold f_X7_put
    rw [er, Option.bind_some, zlt_t, zlt_t, show -1 - (-1 - (q : Int)) = q by omega]
  rw [e0]
  obtain ⟨R2, e, g⟩ := zwhile (st := st_X7_put p1) (fun v => v.1 = (q : Int) ∧ (q : Int) ≤ v.2.1 ∧ v.2.1 ≤ R 0 ∧ (∀ j : Nat, (j : Int) ≤ 4 + v.2.1 → v.2.2 j = R j) ∧ (∀ k : Nat, v.2.1 ≤ (k : Int) → (k : Int) < R 0 → v.2.2 (4 + (k + 1)) = R (4 + k))) (fun v => v.2.1.toNat) (fun R2 => R2 0 = R 0 + 1 ∧ R2 1 = R 1 ∧ R2 2 = R 2 ∧ R2 3 = R 3 ∧ zIns (R 0) (fun k => R (4 + k)) p1 q (fun k => R2 (4 + k))) (by
    rintro ⟨x, y, S⟩ ⟨g1, g2, g3, g4, g5⟩
    dsimp only at g1 g2 g3 g4 g5
    subst g1
    by_cases h : y ≤ (q : Int)
    · have hy : y = (q : Int) := by omega
      subst hy
      refine Or.inl ⟨zup (zup S (4 + (q : Int)) p1) 0 (zup S (4 + (q : Int)) p1 0 + 1), by simp (disch := omega) only [st_X7_put, gd_t, if_pos], ?_, ?_, ?_, ?_, by omega, fun k hk => ?_, ?_, fun k hk1 hk2 => ?_⟩
      · rw [zup_s (show (0 : Nat) = Int.toNat 0 by decide), zup_n (by omega), g4 0 (by omega)]
      · rw [zup_n (by decide), zup_n (by omega), g4 1 (by omega)]
      · rw [zup_n (by decide), zup_n (by omega), g4 2 (by omega)]
      · rw [zup_n (by decide), zup_n (by omega), g4 3 (by omega)]
      · show zup _ 0 _ (4 + k) = R (4 + k)
        rw [zup_n (by omega), zup_n (by omega)]; exact g4 (4 + k) (by omega)
      · show zup _ 0 _ (4 + q) = p1
        rw [zup_n (by omega), zup_s (by omega)]
      · show zup _ 0 _ (4 + (k + 1)) = R (4 + k)
        rw [zup_n (by omega), zup_n (by omega)]; exact g5 k (by omega) hk2
    · have e4 : (4 + y - 1).toNat = 4 + y.toNat - 1 := by omega
      refine Or.inr ⟨((q : Int), y + -1, zup S (4 + y) (S (4 + y - 1).toNat)), by simp (disch := omega) only [st_X7_put, gd_t, if_neg], ⟨rfl, by show (q : Int) ≤ y + -1; omega, by show y + -1 ≤ R 0; omega, fun j hj => ?_, fun k hk1 hk2 => ?_⟩, by show (y + -1).toNat < y.toNat; omega⟩
      · have hj : (j : Int) ≤ 4 + (y + -1) := hj
        show zup S (4 + y) _ j = R j
        rw [zup_n (by omega)]; exact g4 j (by omega)
      · have hk1 : y + -1 ≤ (k : Int) := hk1
        show zup S (4 + y) _ (4 + (k + 1)) = R (4 + k)
        by_cases e2 : (k : Int) = y - 1
        · rw [zup_s (by omega), e4, g4 _ (by omega)]
          congr 1
          omega
        · rw [zup_n (by omega)]; exact g5 k (by omega) hk2) ((q : Int), R 0, R) ⟨rfl, hq1, by show R 0 ≤ R 0; omega, fun j hj => rfl, fun k hk1 hk2 => by exfalso; have : R 0 ≤ (k : Int) := hk1; omega⟩
  exact ⟨R2, q, e, g.1, g.2.1, g.2.2.1, g.2.2.2.1, g.2.2.2.2, hq2, hq3⟩
/-- the time at place q goes -/
def zDel (z : Int) (T : Nat → Int) (q : Nat) (T2 : Nat → Int) : Prop := (∀ k : Nat, k < q → T2 k = T k) ∧ (∀ k : Nat, q ≤ k → (k : Int) + 1 < z → T2 k = T (k + 1))
theorem e_drop {p1 az : Int} {T : Nat → Int} (h0 : 0 ≤ p1) (h1 : p1 < az) (h7 : az ≤ 7) : ∃ T2, f_X1_drop p1 az T = some (T p1.toNat, az - 1, T2) ∧ zDel az T p1.toNat T2 := by
  have e0 : f_X1_drop p1 az T = zev st_X1_drop (T p1.toNat, p1, az, T) := by
    unfold f_X1_drop
    rw [e_hasArrival ⟨by omega, by omega⟩ (by omega) h7, if_pos ⟨h0, h1⟩, Option.bind_some]
    simp (disch := omega) only [gd_t, if_neg, zlt_t]
  rw [e0]
  obtain ⟨r, e, T2, h2, h3⟩ := zwhile (st := st_X1_drop) (fun v => v.1 = T p1.toNat ∧ p1 ≤ v.2.1 ∧ v.2.1 < az ∧ v.2.2.1 = az ∧ (∀ k : Nat, (k : Int) < p1 → v.2.2.2 k = T k) ∧ (∀ k : Nat, p1 ≤ (k : Int) → (k : Int) < v.2.1 → v.2.2.2 k = T (k + 1)) ∧ (∀ k : Nat, v.2.1 ≤ (k : Int) → v.2.2.2 k = T k)) (fun v => (az - v.2.1).toNat) (fun r => ∃ T2, r = (T p1.toNat, az - 1, T2) ∧ zDel az T p1.toNat T2) (by
    rintro ⟨x, y, z, S⟩ ⟨g1, g2, g3, g4, g5, g6, g7⟩
    dsimp only at g1 g2 g3 g4 g5 g6 g7
    subst g1
    subst g4
    by_cases h : y < z - 1
    · refine Or.inr ⟨(T p1.toNat, y + 1, z, zup S y (S (y + 1).toNat)), by simp (disch := omega) only [st_X1_drop, gd_t, if_pos], ⟨rfl, by show p1 ≤ y + 1; omega, by show y + 1 < z; omega, rfl, fun k hk => ?_, fun k hk1 hk2 => ?_, fun k hk => ?_⟩, by show (z - (y + 1)).toNat < (z - y).toNat; omega⟩
      · show zup S y _ k = T k
        rw [zup_n (by omega)]; exact g5 k hk
      · have hk2 : (k : Int) < y + 1 := hk2
        show zup S y _ k = T (k + 1)
        by_cases e2 : k = y.toNat
        · rw [zup_s e2, show (y + 1).toNat = k + 1 by omega]; exact g7 (k + 1) (by omega)
        · rw [zup_n e2]; exact g6 k hk1 (by omega)
      · have hk : y + 1 ≤ (k : Int) := hk
        show zup S y _ k = T k
        rw [zup_n (by omega)]; exact g7 k (by omega)
    · exact Or.inl ⟨(T p1.toNat, z - 1, S), by simp (disch := omega) only [st_X1_drop, gd_t, if_neg], S, rfl, fun k hk => g5 k (by omega), fun k hk1 hk2 => g6 k (by omega) (by omega)⟩) (T p1.toNat, p1, az, T) ⟨rfl, by show p1 ≤ p1; omega, h1, rfl, fun k hk => rfl, fun k hk1 hk2 => by exfalso; have : (k : Int) < p1 := hk2; omega, fun k hk => rfl⟩
  exact ⟨T2, by rw [e, h2], h3⟩
theorem e_rdrop {p1 : Int} {R : Nat → Int} (h0 : 0 ≤ p1) (h1 : p1 < R 0) (h7 : R 0 ≤ 7) : ∃ R2, f_X7_drop p1 R = some R2 ∧ R2 0 = R 0 - 1 ∧ R2 1 = R 1 ∧ R2 2 = R 2 ∧ R2 3 = R 3 ∧ zDel (R 0) (fun k => R (4 + k)) p1.toNat (fun k => R2 (4 + k)) := by
  unfold f_X7_drop
  exact zwhile (st := st_X7_drop) (fun v => p1 ≤ v.1 ∧ v.1 < R 0 ∧ v.2 0 = R 0 - 1 ∧ v.2 1 = R 1 ∧ v.2 2 = R 2 ∧ v.2 3 = R 3 ∧ (∀ k : Nat, (k : Int) < p1 → v.2 (4 + k) = R (4 + k)) ∧ (∀ k : Nat, p1 ≤ (k : Int) → (k : Int) < v.1 → v.2 (4 + k) = R (4 + (k + 1))) ∧ (∀ k : Nat, v.1 ≤ (k : Int) → v.2 (4 + k) = R (4 + k))) (fun v => (R 0 - v.1).toNat) (fun R2 => R2 0 = R 0 - 1 ∧ R2 1 = R 1 ∧ R2 2 = R 2 ∧ R2 3 = R 3 ∧ zDel (R 0) (fun k => R (4 + k)) p1.toNat (fun k => R2 (4 + k))) (by
    rintro ⟨y, S⟩ ⟨g2, g3, s0, s1, s2, s3, g5, g6, g7⟩
    dsimp only at g2 g3 s0 s1 s2 s3 g5 g6 g7
    have e4 : (4 + y + 1).toNat = 4 + (y.toNat + 1) := by omega
    by_cases h : y < S 0
    · refine Or.inr ⟨(y + 1, zup S (4 + y) (S (4 + y + 1).toNat)), by simp (disch := omega) only [st_X7_drop, gd_t, if_pos], ⟨by show p1 ≤ y + 1; omega, by show y + 1 < R 0; omega, ?_, ?_, ?_, ?_, fun k hk => ?_, fun k hk1 hk2 => ?_, fun k hk => ?_⟩, by show (R 0 - (y + 1)).toNat < (R 0 - y).toNat; omega⟩
      · show zup S (4 + y) _ 0 = _
        rw [zup_n (by omega)]; exact s0
      · show zup S (4 + y) _ 1 = _
        rw [zup_n (by omega)]; exact s1
      · show zup S (4 + y) _ 2 = _
        rw [zup_n (by omega)]; exact s2
      · show zup S (4 + y) _ 3 = _
        rw [zup_n (by omega)]; exact s3
      · show zup S (4 + y) _ (4 + k) = _
        rw [zup_n (by omega)]; exact g5 k hk
      · have hk2 : (k : Int) < y + 1 := hk2
        show zup S (4 + y) _ (4 + k) = _
        by_cases e2 : k = y.toNat
        · rw [zup_s (by omega), e4, e2]; exact g7 (y.toNat + 1) (by omega)
        · rw [zup_n (by omega)]; exact g6 k hk1 (by omega)
      · have hk : y + 1 ≤ (k : Int) := hk
        show zup S (4 + y) _ (4 + k) = _
        rw [zup_n (by omega)]; exact g7 k (by omega)
    · exact Or.inl ⟨S, by simp (disch := omega) only [st_X7_drop, gd_t, if_neg], s0, s1, s2, s3, fun k hk => g5 k (by omega), fun k hk1 hk2 => g6 k (by omega) (by omega)⟩) (p1, zup R 0 (R 0 - 1)) ⟨by show p1 ≤ p1; omega, h1, rfl, rfl, rfl, rfl, fun k hk => (zup_n (by omega) : zup R 0 (R 0 - 1) (4 + k) = R (4 + k)), fun k hk1 hk2 => by exfalso; have : (k : Int) < p1 := hk2; omega, fun k hk => (zup_n (by omega) : zup R 0 (R 0 - 1) (4 + k) = R (4 + k))⟩
