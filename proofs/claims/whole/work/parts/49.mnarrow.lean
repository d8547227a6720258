/-! PURE: the reference narrows -/
theorem e_apart3 {R : Nat → Int} {z lo hi sl : Int} {T : Nat → Int} (h : zBoth R 0 z lo hi sl T) {i j : Nat} (hij : i < j) (hj : j < z.toNat) : f_X7_apart (i : Int) (j : Int) R = some (T j - T i) := by
  have := e_apart2 h (p := (i : Int)) (q := (j : Int)) ⟨by omega, by omega⟩ ⟨by omega, by omega⟩
  rw [Int.toNat_natCast, Int.toNat_natCast] at this
  exact this
theorem e_lOf {R : Nat → Int} {z lo hi sl : Int} {T : Nat → Int} (h : zBoth R 0 z lo hi sl T) {b : zB} (hb : bok b) {HU HD : Nat → Int} (h1 : HU 0 = b.2.2.1) (h2 : HD 0 = b.2.2.2) {i j : Nat} (hij : i < j) (hj : j < z.toNat) : f_X7_leastOf (i : Int) (j : Int) R HU HD = some (pL T (2 * sl) b i j) := by
  have C := zCt_of h.1
  have ea := e_apart3 h hij hj
  obtain ⟨u1, u2, u3, u4⟩ := c_ap C hij hj
  have hk7 := C.1
  have e3 : R 3 = sl := h.2.2.2.2.1
  obtain ⟨b1, b2, b3, b4, b5, b6, b7, b8⟩ := hb
  unfold f_X7_leastOf pL bL
  rw [ea, Option.bind_some, zlt_t, e3, h1, h2]
  have p2 := zm_bd (x := T j - T i - 2 * sl) (y := b.2.2.2) (by omega) (by omega) (by omega) b8
  have rp : zR ((T j - T i - 2 * sl) * b.2.2.2) := ⟨by omega, by omega⟩
  have rd : zR ((j : Int) - (i : Int)) := ⟨by omega, by omega⟩
  rw [gd_t rp]
  by_cases hc : T j - T i ≤ 2 * sl
  · have x1 : (T j - T i - 2 * sl) * b.2.2.2 ≤ 0 := Int.mul_nonpos_of_nonpos_of_nonneg (by omega) (by omega)
    rw [if_pos x1, gd_t ⟨zR0, rd⟩, if_pos (by omega), if_pos hc, show max ((j : Int) - (i : Int)) 0 = (j : Int) - (i : Int) by omega]
  · have x1 : 0 < (T j - T i - 2 * sl) * b.2.2.2 := Int.mul_pos (by omega) b7
    have hx : 0 ≤ (T j - T i - 2 * sl) * b.2.2.2 + b.2.2.1 - 1 := by omega
    have q1 := Int.ediv_le_self b.2.2.1 hx
    have q2 := Int.ediv_nonneg hx (show 0 ≤ b.2.2.1 by omega)
    rw [if_neg (by omega), gd_t ⟨⟨by omega, by omega⟩, ⟨by omega, by omega⟩, by omega⟩, zlt_t, Int.tdiv_eq_ediv_of_nonneg hx, if_neg hc]
    generalize ((T j - T i - 2 * sl) * b.2.2.2 + b.2.2.1 - 1) / b.2.2.1 = y at q1 q2
    rw [gd_t ⟨⟨by omega, by omega⟩, rd⟩]
    by_cases hy : y < (j : Int) - (i : Int)
    · rw [if_pos hy, show max ((j : Int) - (i : Int)) y = (j : Int) - (i : Int) by omega]
    · rw [if_neg hy, show max ((j : Int) - (i : Int)) y = y by omega]
theorem e_gOf {R : Nat → Int} {z lo hi sl : Int} {T : Nat → Int} (h : zBoth R 0 z lo hi sl T) {b : zB} (hb : bok b) {LU LD : Nat → Int} (h1 : LU 0 = b.1) (h2 : LD 0 = b.2.1) {i j : Nat} (hij : i < j) (hj : j < z.toNat) : f_X7_greatestOf (i : Int) (j : Int) R LU LD = some (pG T (2 * sl) b i j) := by
  have C := zCt_of h.1
  have ea := e_apart3 h hij hj
  obtain ⟨u1, u2, u3, u4⟩ := c_ap C hij hj
  have e3 : R 3 = sl := h.2.2.2.2.1
  obtain ⟨b1, b2, b3, b4, b5, b6, b7, b8⟩ := hb
  have p1 := zm_bd (x := T j - T i + 2 * sl) (y := b.2.1) (by omega) (by omega) (by omega) b4
  have p1' : 0 ≤ (T j - T i + 2 * sl) * b.2.1 := Int.mul_nonneg (by omega) (by omega)
  unfold f_X7_greatestOf pG bG
  rw [ea, Option.bind_some, e3, h1, h2, gd_t ⟨⟨by omega, by omega⟩, ⟨by omega, by omega⟩, by omega⟩, Int.tdiv_eq_ediv_of_nonneg p1']
theorem e_cOf {R : Nat → Int} {z lo hi sl : Int} {T : Nat → Int} (h : zBoth R 0 z lo hi sl T) {b : zB} (hb : bok b) {LU LD HU HD : Nat → Int} (hx : bx LU LD HU HD 0 = b) {i j : Nat} (hij : i < j) (hj : j < z.toNat) : f_X7_countsOf (i : Int) (j : Int) R LU LD HU HD = some (max 0 (pG T (2 * sl) b i j - pL T (2 * sl) b i j + 1)) := by
  have C := zCt_of h.1
  obtain ⟨v1, v2, v3, v4⟩ := p_bd C hb hij hj
  have x1 : LU 0 = b.1 := by rw [← hx]; rfl
  have x2 : LD 0 = b.2.1 := by rw [← hx]; rfl
  have x3 : HU 0 = b.2.2.1 := by rw [← hx]; rfl
  have x4 : HD 0 = b.2.2.2 := by rw [← hx]; rfl
  unfold f_X7_countsOf
  rw [e_gOf h hb x1 x2 hij hj, Option.bind_some, e_lOf h hb x3 x4 hij hj, Option.bind_some, zlt_t, gd_t ⟨by omega, by omega⟩]
  by_cases c : pG T (2 * sl) b i j - pL T (2 * sl) b i j + 1 < 0
  · rw [if_pos c, Int.max_eq_left (by omega)]
  · rw [if_neg c, Int.max_eq_right (by omega)]
theorem e_isNar {R : Nat → Int} {z lo hi sl : Int} {T : Nat → Int} (h : zBoth R 0 z lo hi sl T) {b : zB} (hb : nRe z.toNat T (2 * sl) lo hi b) {LU LD HU HD : Nat → Int} (hx : bx LU LD HU HD 0 = b) {i j : Nat} (hij : i < j) (hj : j < z.toNat) (he : pL T (2 * sl) b i j = pG T (2 * sl) b i j) : ∃ (r : Int) (LU2 LD2 HU2 HD2 : Nat → Int), f_X7_isNarrower (i : Int) (j : Int) R LU LD HU HD = some (r, LU2, LD2, HU2, HD2) ∧ bx LU2 LD2 HU2 HD2 0 = bcut b (T j - T i) (2 * sl) (pL T (2 * sl) b i j) ∧ ((r = 0 ∧ bcut b (T j - T i) (2 * sl) (pL T (2 * sl) b i j) = b) ∨ (r = 1 ∧ ¬ bfit b (T j - T i) (2 * sl) (pL T (2 * sl) b i j))) := by
  have C := zCt_of h.1
  obtain ⟨u1, u2, u3, u4⟩ := c_ap C hij hj
  obtain ⟨n1, n2, n3, n4, n5⟩ := nRe_cut C hb hij hj he
  have ea := e_apart3 h hij hj
  have x1 : LU 0 = b.1 := by rw [← hx]; rfl
  have x2 : LD 0 = b.2.1 := by rw [← hx]; rfl
  have x3 : HU 0 = b.2.2.1 := by rw [← hx]; rfl
  have x4 : HD 0 = b.2.2.2 := by rw [← hx]; rfl
  have el := e_lOf h hb.1 x3 x4 hij hj
  have e3 : R 3 = sl := h.2.2.2.2.1
  have hbo := hb.1
  obtain ⟨b1, b2, b3, b4, b5, b6, b7, b8⟩ := hbo
  generalize pL T (2 * sl) b i j = c at n1 n2 n5 el
  have r1 : zR ((T j - T i - 2 * sl) * b.2.1) := zm_R (by omega) (by omega) (by omega) b4
  have r2 : zR (b.1 * c) := zm_R (by omega) (by omega) (by omega) (by omega)
  have r3 : zR ((T j - T i + 2 * sl) * b.2.2.2) := zm_R (by omega) (by omega) (by omega) b8
  have r4 : zR (b.2.2.1 * c) := zm_R (by omega) (by omega) (by omega) (by omega)
  unfold f_X7_isNarrower bcut
  rw [el, Option.bind_some, ea, Option.bind_some, zlt_t, Option.bind_some, zlt_t, e3, x1, x2, gd_t ⟨r1, r2⟩]
  by_cases c1 : (T j - T i - 2 * sl) * b.2.1 ≤ b.1 * c
  · rw [if_pos c1, if_pos c1, if_pos c1]
    by_cases c2 : (T j - T i + 2 * sl) * b.2.2.2 < b.2.2.1 * c
    · rw [if_pos c2, if_pos c2]
      refine ⟨1, LU, LD, zup HU 0 (T j - T i + 2 * sl), zup HD 0 c, zev_inr ?_, ?_, Or.inr ⟨rfl, fun q => ?_⟩⟩
      · unfold st_X7_isNarrower
        dsimp only
        rw [x3, x4, gd_t ⟨r3, r4⟩, if_pos c2]
      · show (LU 0, LD 0, _, _) = _
        rw [x1, x2]
        rfl
      · have := q.2; omega
    · rw [if_neg c2, if_neg c2]
      refine ⟨0, LU, LD, HU, HD, zev_inr ?_, hx, Or.inl ⟨rfl, rfl⟩⟩
      unfold st_X7_isNarrower
      dsimp only
      rw [x3, x4, gd_t ⟨r3, r4⟩, if_neg c2, gd_t (Or.inl rfl)]
  · rw [if_neg c1, if_neg c1, if_neg c1]
    by_cases c2 : (T j - T i + 2 * sl) * b.2.2.2 < b.2.2.1 * c
    · rw [if_pos c2, if_pos c2]
      refine ⟨1, zup LU 0 (T j - T i - 2 * sl), zup LD 0 c, zup HU 0 (T j - T i + 2 * sl), zup HD 0 c, zev_inr ?_, rfl, Or.inr ⟨rfl, fun q => c1 q.1⟩⟩
      unfold st_X7_isNarrower
      dsimp only
      rw [x3, x4, gd_t ⟨r3, r4⟩, if_pos c2]
    · rw [if_neg c2, if_neg c2]
      refine ⟨1, zup LU 0 (T j - T i - 2 * sl), zup LD 0 c, HU, HD, zev_inr ?_, ?_, Or.inr ⟨rfl, fun q => c1 q.1⟩⟩
      · unfold st_X7_isNarrower
        dsimp only
        rw [x3, x4, gd_t ⟨r3, r4⟩, if_neg c2, gd_t (Or.inr rfl)]
      · show (_, _, HU 0, HD 0) = _
        rw [x3, x4]
        rfl
def mEm (x4 : Int) (b : zB) : Int := if x4 = 0 then 1 else if bemp b = true then 1 else 0
theorem m_pc4 {R : Nat → Int} {b : zB} (hb : bok b) {x1 x4 lev emp i j : Int} {H N LU LD HU HD : Nat → Int} (hx : bx LU LD HU HD 0 = b) (hr : zR x4) : zev (st_X7_narrow R) (4, x1, i, j, x4, lev, emp, H, N, LU, LD, HU, HD) = zev (st_X7_narrow R) (2, 1, i, j + 1, 0, lev, mEm x4 b, H, N, LU, LD, HU, HD) := by
  have x1' : LU 0 = b.1 := by rw [← hx]; rfl
  have x2' : LD 0 = b.2.1 := by rw [← hx]; rfl
  have x3' : HU 0 = b.2.2.1 := by rw [← hx]; rfl
  have x4' : HD 0 = b.2.2.2 := by rw [← hx]; rfl
  obtain ⟨b1, b2, b3, b4, b5, b6, b7, b8⟩ := hb
  have r1 : zR (b.1 * b.2.2.2) := zm_R (by omega) (by omega) (by omega) b8
  have r2 : zR (b.2.2.1 * b.2.1) := zm_R (by omega) (by omega) (by omega) b4
  refine zev_inl ?_
  simp only [st_X7_narrow]
  unfold mEm bemp
  rw [gd_t hr]
  by_cases c : x4 = 0
  · rw [if_pos c, if_pos c]
  · rw [if_neg c, if_neg c, x1', x2', x3', x4', gd_t ⟨r1, r2⟩]
    by_cases d : b.1 * b.2.2.2 ≤ b.2.2.1 * b.2.1
    · rw [if_pos d, if_neg (by rw [decide_eq_true_eq]; omega)]
    · rw [if_neg d, if_pos (by rw [decide_eq_true_eq]; omega)]
theorem m_pc3 {R : Nat → Int} {b : zB} (hb : bok b) {x1 x4 lev emp i j : Int} {H N LU LD HU HD : Nat → Int} (hx : bx LU LD HU HD 0 = b) (hr : zR x4) (h1 : x1 = 0 ∨ x1 = 1) : zev (st_X7_narrow R) (3, x1, i, j, x4, lev, emp, H, N, LU, LD, HU, HD) = zev (st_X7_narrow R) (2, x1, i, j + 1, 0, lev, mEm x4 b, H, N, LU, LD, HU, HD) := by
  rcases h1 with rfl | rfl
  · have x1' : LU 0 = b.1 := by rw [← hx]; rfl
    have x2' : LD 0 = b.2.1 := by rw [← hx]; rfl
    have x3' : HU 0 = b.2.2.1 := by rw [← hx]; rfl
    have x4' : HD 0 = b.2.2.2 := by rw [← hx]; rfl
    obtain ⟨b1, b2, b3, b4, b5, b6, b7, b8⟩ := hb
    have r1 : zR (b.1 * b.2.2.2) := zm_R (by omega) (by omega) (by omega) b8
    have r2 : zR (b.2.2.1 * b.2.1) := zm_R (by omega) (by omega) (by omega) b4
    refine zev_inl ?_
    simp only [st_X7_narrow]
    unfold mEm bemp
    rw [gd_t zR0, if_pos trivial, gd_t hr]
    by_cases c : x4 = 0
    · rw [if_pos c, if_pos c]
    · rw [if_neg c, if_neg c, x1', x2', x3', x4', gd_t ⟨r1, r2⟩]
      by_cases d : b.1 * b.2.2.2 ≤ b.2.2.1 * b.2.1
      · rw [if_pos d, if_neg (by rw [decide_eq_true_eq]; omega)]
      · rw [if_neg d, if_pos (by rw [decide_eq_true_eq]; omega)]
  · rw [← m_pc4 (x1 := 1) (emp := emp) hb hx hr]
    refine zev_inl ?_
    simp only [st_X7_narrow]
    rw [gd_t zRone, if_neg (by omega)]
