/-! PURE: least terms -/
theorem gs0 {x y : Nat} {c : Int} (hy : y ≠ 0) (hx : (x : Int) < 2147483648) (hy2 : (y : Int) < 2147483648) (hc0 : 0 ≤ c) (hc : c < 1000000) : st_X0_commonDivisor ((x : Int), (y : Int), c) = some (.inl ((y : Int), ((x % y : Nat) : Int), c + 1)) := by
  have h1 : zR c := ⟨by omega, by omega⟩
  have h2 : zR 1000000 := ⟨by omega, by omega⟩
  have h3 : zR (y : Int) := ⟨by omega, by omega⟩
  have h4 : zR (x : Int) := ⟨by omega, by omega⟩
  unfold st_X0_commonDivisor
  dsimp only
  rw [gd_t ⟨h1, h2⟩, if_pos hc, gd_t h3, if_neg (by omega), gd_t ⟨h4, h3, by omega⟩, zlt_t, Int.ofNat_tmod]
theorem gz0 {x : Nat} {c : Int} (hc0 : 0 ≤ c) (hc : c < 1000000) : st_X0_commonDivisor ((x : Int), ((0 : Nat) : Int), c) = some (.inr (x : Int)) := by
  have h1 : zR c := ⟨by omega, by omega⟩
  have h2 : zR 1000000 := ⟨by omega, by omega⟩
  have h3 : zR ((0 : Nat) : Int) := ⟨by omega, by omega⟩
  unfold st_X0_commonDivisor
  dsimp only
  rw [gd_t ⟨h1, h2⟩, if_pos hc, gd_t h3, if_pos (by omega)]
theorem gcd_swap (x y : Nat) : Nat.gcd y (x % y) = Nat.gcd x y := by
  rw [Nat.gcd_comm y, ← Nat.gcd_rec, Nat.gcd_comm]
theorem e_gcdA : ∀ (n x y : Nat) (c : Int), y < x → x < 2 ^ n → 0 ≤ c → c + 2 * (n : Int) + 2 ≤ 1000000 → (x : Int) < 2147483648 → zev st_X0_commonDivisor ((x : Int), (y : Int), c) = some ((Nat.gcd x y : Nat) : Int) := by
  intro n
  induction n with
  | zero => intro x y c h1 h2 _ _ _; rw [Nat.pow_zero] at h2; omega
  | succ n ih =>
    intro x y c h1 h2 h3 h4 h5
    by_cases hy : y = 0
    · subst hy
      rw [zev_inr (gz0 h3 (by omega)), Nat.gcd_zero_right]
    · rw [zev_inl (gs0 hy h5 (by omega) h3 (by omega)), ← gcd_swap]
      have hr := Nat.mod_lt x (show y > 0 by omega)
      have hq := Nat.div_add_mod x y
      have hq2 : y ≤ y * (x / y) := Nat.le_mul_of_pos_right y (Nat.div_pos (by omega) (by omega))
      generalize x % y = r at hr hq
      generalize y * (x / y) = q at hq hq2
      by_cases h0 : r = 0
      · subst h0
        rw [zev_inr (gz0 (by omega) (by omega)), Nat.gcd_zero_right]
      · rw [zev_inl (gs0 h0 (by omega) (by omega) (by omega) (by omega)), ← gcd_swap]
        have hr2 := Nat.mod_lt y (show r > 0 by omega)
        rw [Nat.pow_succ] at h2
        exact ih r (y % r) _ hr2 (by omega) (by omega) (by omega) (by omega)
theorem e_gcd0 {x y : Nat} (hx : (x : Int) < 2147483648) (hy : y < 16777216) : f_X0_commonDivisor (x : Int) (y : Int) = some ((Nat.gcd x y : Nat) : Int) := by
  unfold f_X0_commonDivisor
  by_cases h : y = 0
  · subst h
    rw [zev_inr (gz0 (by omega) (by omega)), Nat.gcd_zero_right]
  · rw [zev_inl (gs0 h hx (by omega) (by omega) (by omega)), ← gcd_swap]
    exact e_gcdA 24 y (x % y) _ (Nat.mod_lt x (by omega)) (by omega) (by omega) (by omega) (by omega)
theorem e_gcd7 : ∀ (n x y : Nat), y < n → (x : Int) < 2147483648 → (y : Int) < 2147483648 → zev st_X7_common ((x : Int), (y : Int)) = some ((Nat.gcd x y : Nat) : Int) := by
  intro n
  induction n with
  | zero => intro x y h; omega
  | succ n ih =>
    intro x y h h1 h2
    have r1 : zR (x : Int) := ⟨by omega, by omega⟩
    have r2 : zR (y : Int) := ⟨by omega, by omega⟩
    by_cases hy : y = 0
    · subst hy
      have e : st_X7_common ((x : Int), ((0 : Nat) : Int)) = some (.inr (x : Int)) := by
        unfold st_X7_common
        dsimp only
        rw [gd_t r2, if_pos (by omega)]
      rw [zev_inr e, Nat.gcd_zero_right]
    · have e : st_X7_common ((x : Int), (y : Int)) = some (.inl ((y : Int), ((x % y : Nat) : Int))) := by
        unfold st_X7_common
        dsimp only
        rw [gd_t r2, if_neg (by omega), gd_t ⟨r1, r2, by omega⟩, zlt_t, Int.ofNat_tmod]
      rw [zev_inl e, ← gcd_swap]
      have hr := Nat.mod_lt x (show y > 0 by omega)
      exact ih y (x % y) (by omega) h2 (by omega)
/-- the upper (w = 0), the lower number in least terms -/
def fpt (u l w : Int) : Int := if w = 0 then Int.tdiv u ((Nat.gcd u.natAbs l.toNat : Nat) : Int) else Int.tdiv l ((Nat.gcd u.natAbs l.toNat : Nat) : Int)
theorem gcd_bd {u l : Int} (hl : 0 < l) (hl2 : l < 16777216) : 0 < Nat.gcd u.natAbs l.toNat ∧ Nat.gcd u.natAbs l.toNat < 16777216 := by
  have h1 := Nat.gcd_pos_of_pos_right u.natAbs (show 0 < l.toNat by omega)
  have h2 := Nat.gcd_le_right u.natAbs (show 0 < l.toNat by omega)
  omega
theorem e_part {u l w : Int} (hu : -2147483648 < u) (hu2 : u < 2147483648) (hl : 0 < l) (hl2 : l < 16777216) (hw : zR w) : f_X0_part u l w = some (fpt u l w) := by
  have ea : zAbs u = ((u.natAbs : Nat) : Int) := by
    unfold zAbs
    by_cases h : 0 ≤ u
    · rw [if_pos h]; omega
    · rw [if_neg h]; omega
  have el : l = ((l.toNat : Nat) : Int) := by omega
  have eg : f_X0_commonDivisor (zAbs u) l = some ((Nat.gcd u.natAbs l.toNat : Nat) : Int) := by
    rw [ea]
    conv => lhs; rw [el]
    exact e_gcd0 (by omega) (by omega)
  obtain ⟨g1, g2⟩ := gcd_bd (u := u) hl hl2
  unfold f_X0_part fpt
  rw [eg]
  generalize Nat.gcd u.natAbs l.toNat = g at g1 g2
  have r1 : zR u := ⟨by omega, by omega⟩
  have r2 : zR l := ⟨by omega, by omega⟩
  have r3 : zR (g : Int) := ⟨by omega, by omega⟩
  rw [gd_t r1, Option.bind_some, gd_t r3, if_neg (by omega), gd_t hw]
  by_cases h : w = 0
  · rw [if_pos h, if_pos h, gd_t ⟨r1, r3, by omega⟩]
  · rw [if_neg h, if_neg h, gd_t ⟨r2, r3, by omega⟩]
theorem e_common {u l : Int} (hu : -2147483648 < u) (hu2 : u < 2147483648) (hl : 0 < l) (hl2 : l < 16777216) : f_X7_common u l = some ((Nat.gcd u.natAbs l.toNat : Nat) : Int) := by
  have el : l = ((l.toNat : Nat) : Int) := by omega
  have eg := e_gcd7 (l.toNat + 1) u.natAbs l.toNat (by omega) (by omega) (by omega)
  rw [← el] at eg
  unfold f_X7_common
  have r1 : zR u := ⟨by omega, by omega⟩
  rw [gd_t r1]
  by_cases h : u < 0
  · rw [if_pos h, zlt_t, show -u = ((u.natAbs : Nat) : Int) by omega]
    exact eg
  · rw [if_neg h]
    conv => lhs; rw [show u = ((u.natAbs : Nat) : Int) by omega]
    exact eg
theorem e_least {u l : Int} (hu : -2147483648 < u) (hu2 : u < 2147483648) (hl : 0 < l) (hl2 : l < 16777216) : f_X7_least u l 1 = some (fpt u l 0) ∧ f_X7_least u l 0 = some (fpt u l 1) := by
  have eg := e_common hu hu2 hl hl2
  obtain ⟨g1, g2⟩ := gcd_bd (u := u) hl hl2
  unfold f_X7_least fpt
  rw [eg]
  generalize Nat.gcd u.natAbs l.toNat = g at g1 g2
  have r1 : zR u := ⟨by omega, by omega⟩
  have r2 : zR l := ⟨by omega, by omega⟩
  have r3 : zR (g : Int) := ⟨by omega, by omega⟩
  have r4 : zR 1 := ⟨by omega, by omega⟩
  constructor
  · rw [gd_t r4, if_neg (by omega), Option.bind_some, gd_t ⟨r1, r3, by omega⟩, if_pos rfl]
  · rw [gd_t zR0, if_pos rfl, Option.bind_some, gd_t ⟨r2, r3, by omega⟩, if_neg (by omega)]
theorem e_ends {b : zB} {w : Int} (hb : bok b) (h0 : 0 ≤ w) (h3 : w ≤ 3) : ∃ r, f_X4_part w b.1 b.2.1 b.2.2.1 b.2.2.2 = some r ∧ f_X7_ends b.1 b.2.1 b.2.2.1 b.2.2.2 w = some r := by
  obtain ⟨a1, a2, a3, a4, a5, a6, a7, a8⟩ := hb
  have rw0 : zR w := ⟨by omega, by omega⟩
  have rw2 : zR (w - 2) := ⟨by omega, by omega⟩
  have r2 : zR 2 := ⟨by omega, by omega⟩
  have p1 := e_part (u := b.1) (l := b.2.1) (w := w) (by omega) (by omega) a3 (by omega) rw0
  have p2 := e_part (u := b.2.2.1) (l := b.2.2.2) (w := w - 2) (by omega) (by omega) a7 (by omega) rw2
  have q1 := e_least (u := b.1) (l := b.2.1) (by omega) (by omega) a3 (by omega)
  have q2 := e_least (u := b.2.2.1) (l := b.2.2.2) (by omega) (by omega) a7 (by omega)
  unfold f_X4_part f_X7_ends
  rw [gd_t ⟨rw0, r2⟩, gd_t ⟨rw0, r2⟩]
  by_cases h : w < 2
  · rw [if_pos h, if_pos h, p1, Option.bind_some, gd_t rw0]
    by_cases h1 : w = 0
    · rw [if_pos h1, q1.1, Option.bind_some, h1]
      exact ⟨_, rfl, rfl⟩
    · have h1' : w = 1 := by omega
      rw [if_neg h1, q1.2, Option.bind_some, h1']
      exact ⟨_, rfl, rfl⟩
  · rw [if_neg h, if_neg h, p2, Option.bind_some, gd_t ⟨rw0, r2⟩]
    by_cases h1 : w = 2
    · rw [if_pos h1, q2.1, Option.bind_some, h1]
      exact ⟨_, rfl, rfl⟩
    · have h1' : w = 3 := by omega
      rw [if_neg h1, q2.2, Option.bind_some, h1']
      exact ⟨_, rfl, rfl⟩
