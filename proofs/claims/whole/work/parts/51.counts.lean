/-! PURE: counts, narrowed -/
theorem lt_nat {x y x2 y2 : Nat} (hx : 0 < x) (hy : 0 < y) (hy2 : 0 < y2) (h : x * y2 = x2 * y) : x / Nat.gcd x y = x2 / Nat.gcd x2 y2 ∧ y / Nat.gcd x y = y2 / Nat.gcd x2 y2 := by
  have g1 : Nat.gcd x y * y2 = y * Nat.gcd x2 y2 := by
    rw [← Nat.gcd_mul_right, ← Nat.gcd_mul_left, h, Nat.mul_comm x2 y]
  have g2 : Nat.gcd x y * x2 = x * Nat.gcd x2 y2 := by
    rw [← Nat.gcd_mul_right, ← Nat.gcd_mul_left, h, Nat.mul_comm y x2]
  have p1 := Nat.gcd_pos_of_pos_right x hy
  have p2 := Nat.gcd_pos_of_pos_right x2 hy2
  have d1 := Nat.mul_div_cancel' (Nat.gcd_dvd_left x y)
  have d2 := Nat.mul_div_cancel' (Nat.gcd_dvd_right x y)
  have d3 := Nat.mul_div_cancel' (Nat.gcd_dvd_left x2 y2)
  have d4 := Nat.mul_div_cancel' (Nat.gcd_dvd_right x2 y2)
  have pp : 0 < Nat.gcd x y * Nat.gcd x2 y2 := Nat.mul_pos p1 p2
  constructor
  · refine Nat.eq_of_mul_eq_mul_left pp ?_
    have e1 : Nat.gcd x y * Nat.gcd x2 y2 * (x / Nat.gcd x y) = Nat.gcd x y * (x / Nat.gcd x y) * Nat.gcd x2 y2 := by ac_rfl
    have e2 : Nat.gcd x y * Nat.gcd x2 y2 * (x2 / Nat.gcd x2 y2) = Nat.gcd x y * (Nat.gcd x2 y2 * (x2 / Nat.gcd x2 y2)) := by ac_rfl
    rw [e1, e2, d1, d3]
    exact g2.symm
  · refine Nat.eq_of_mul_eq_mul_left pp ?_
    have e1 : Nat.gcd x y * Nat.gcd x2 y2 * (y / Nat.gcd x y) = Nat.gcd x y * (y / Nat.gcd x y) * Nat.gcd x2 y2 := by ac_rfl
    have e2 : Nat.gcd x y * Nat.gcd x2 y2 * (y2 / Nat.gcd x2 y2) = Nat.gcd x y * (Nat.gcd x2 y2 * (y2 / Nat.gcd x2 y2)) := by ac_rfl
    rw [e1, e2, d2, d4]
    exact g1.symm
theorem fpt_nat {x y : Nat} {w : Int} : fpt (x : Int) (y : Int) w = if w = 0 then ((x / Nat.gcd x y : Nat) : Int) else ((y / Nat.gcd x y : Nat) : Int) := by
  unfold fpt
  rw [Int.natAbs_natCast, Int.toNat_natCast, Int.ofNat_tdiv, Int.ofNat_tdiv]
theorem fpt_congr {u l u2 l2 w : Int} (hu : 0 < u) (hl : 0 < l) (hu2 : 0 < u2) (hl2 : 0 < l2) (h : u * l2 = u2 * l) : fpt u l w = fpt u2 l2 w := by
  obtain ⟨x, rfl⟩ : ∃ x : Nat, u = (x : Int) := ⟨u.toNat, by omega⟩
  obtain ⟨y, rfl⟩ : ∃ y : Nat, l = (y : Int) := ⟨l.toNat, by omega⟩
  obtain ⟨x2, rfl⟩ : ∃ x2 : Nat, u2 = (x2 : Int) := ⟨u2.toNat, by omega⟩
  obtain ⟨y2, rfl⟩ : ∃ y2 : Nat, l2 = (y2 : Int) := ⟨l2.toNat, by omega⟩
  have h' : x * y2 = x2 * y := by
    have : ((x * y2 : Nat) : Int) = ((x2 * y : Nat) : Int) := by
      rw [Int.natCast_mul, Int.natCast_mul]
      exact h
    exact Int.ofNat.inj this
  obtain ⟨e1, e2⟩ := lt_nat (by omega) (by omega) (by omega) h'
  rw [fpt_nat, fpt_nat, e1, e2]
def epv (b : zB) (w : Int) : Int := if w < 2 then fpt b.1 b.2.1 w else fpt b.2.2.1 b.2.2.2 (w - 2)
theorem e_partv {b : zB} {w : Int} (hb : bok b) (h0 : 0 ≤ w) (h3 : w ≤ 3) : f_X4_part w b.1 b.2.1 b.2.2.1 b.2.2.2 = some (epv b w) := by
  obtain ⟨a1, a2, a3, a4, a5, a6, a7, a8⟩ := hb
  have rw0 : zR w := ⟨by omega, by omega⟩
  have rw2 : zR (w - 2) := ⟨by omega, by omega⟩
  have r2 : zR 2 := ⟨by omega, by omega⟩
  have p1 := e_part (u := b.1) (l := b.2.1) (w := w) (by omega) (by omega) a3 (by omega) rw0
  have p2 := e_part (u := b.2.2.1) (l := b.2.2.2) (w := w - 2) (by omega) (by omega) a7 (by omega) rw2
  unfold f_X4_part epv
  rw [gd_t ⟨rw0, r2⟩]
  by_cases h : w < 2
  · rw [if_pos h, if_pos h, p1, Option.bind_some]
  · rw [if_neg h, if_neg h, p2, Option.bind_some]
theorem epv_congr {a b : zB} {w : Int} (ha : bok a) (hb : bok b) (h1 : bsub a b) (h2 : bsub b a) : epv a w = epv b w := by
  obtain ⟨a1, -, a2, -, a3, -, a4, -⟩ := ha
  obtain ⟨b1, -, b2, -, b3, -, b4, -⟩ := hb
  have e1 : a.1 * b.2.1 = b.1 * a.2.1 := Int.le_antisymm h2.1 h1.1
  have e2 : a.2.2.1 * b.2.2.2 = b.2.2.1 * a.2.2.2 := Int.le_antisymm h1.2 h2.2
  unfold epv
  rw [fpt_congr a1 a2 b1 b2 e1, fpt_congr a3 a4 b3 b4 e2]
theorem p_congr {k : Nat} {t : Nat → Int} {s lo hi : Int} (C : zCt k t s lo hi) {a b : zB} (ha : bok a) (hb : bok b) (h1 : bsub a b) (h2 : bsub b a) {i j : Nat} (hij : i < j) (hj : j < k) : pL t s a i j = pL t s b i j ∧ pG t s a i j = pG t s b i j := by
  obtain ⟨u1, u2, u3, u4⟩ := c_ap C hij hj
  have m1 := bL_mono (ap := t j - t i) (s := s) ha hb h1
  have m2 := bL_mono (ap := t j - t i) (s := s) hb ha h2
  have m3 := bG_mono (ap := t j - t i) (s := s) ha hb (by omega) h1
  have m4 := bG_mono (ap := t j - t i) (s := s) hb ha (by omega) h2
  unfold pL pG
  omega
theorem sp_narrowed (az : Int) (alo : Int) (ahi : Int) (asl : Int) (aT : Nat → Int) (pn : Int) (pz : Int) (pZ : Nat → Int) (pLo : Nat → Int) (pHi : Nat → Int) (pSl : Nat → Int) (pT : Nat → Nat → Int) (jZ : Nat → Int) (jLo : Nat → Int) (jHi : Nat → Int) (jSl : Nat → Int) (jT : Nat → Nat → Int) (kK : Nat → Int) (rn : Int) (rL : Nat → Int) (clu : Int) (cll : Int) (chu : Int) (chl : Int) (mmany : Int) (macts : Int) (mlev : Int) (memp : Int) (mText : Nat → Int) (mNow : Nat → Int) (mWas : Nat → Int) (mIsK : Nat → Int) (mKept : Nat → Int) (mHeard : Nat → Int) (mNum : Nat → Int) (mLU : Nat → Int) (mLD : Nat → Int) (mHU : Nat → Int) (mHD : Nat → Int) (p1 : Int) (hp1 : zR p1) (h : zRel az alo ahi asl aT pn pz pZ pLo pHi pSl pT jZ jLo jHi jSl jT kK rn rL mmany mText mNow mWas macts mIsK mKept) : ∃ (r : Int) (clu' : Int) (cll' : Int) (chu' : Int) (chl' : Int) (mth' : Int) (mlev' : Int) (memp' : Int) (mHeard' : Nat → Int) (mNum' : Nat → Int) (mLU' : Nat → Int) (mLD' : Nat → Int) (mHU' : Nat → Int) (mHD' : Nat → Int), f_X6_narrowed p1 az alo ahi asl aT clu cll chu chl = some (r, clu', cll', chu', chl') ∧ f_X7_narrowed p1 mlev memp mNow mHeard mNum mLU mLD mHU mHD = some (r, mth', mlev', memp', mHeard', mNum', mLU', mLD', mHU', mHD') ∧ zRel az alo ahi asl aT pn pz pZ pLo pHi pSl pT jZ jLo jHi jSl jT kK rn rL mmany mText mNow mWas macts mIsK mKept := by
  have h' := h
  obtain ⟨hN, -⟩ := h'
  have z3 : zR 3 := by decide
  have f1 := e_in (a := p1) (b := 0) (c := 3) hp1 zR0 z3
  by_cases hc : 0 ≤ p1 ∧ p1 ≤ 3
  · rw [if_pos hc] at f1
    obtain ⟨r, b, ec, ho⟩ := e_narrow hN.1
    obtain ⟨l2, emp, H2, N2, LU2, LD2, HU2, HD2, em, hm⟩ := e_mnarrow mHeard mNum mLU mLD mHU mHD hN
    have main : ∃ v : Int, f_X6_narrowed p1 az alo ahi asl aT clu cll chu chl = some (v, b.1, b.2.1, b.2.2.1, b.2.2.2) ∧ f_X7_narrowed p1 mlev memp mNow mHeard mNum mLU mLD mHU mHD = some (v, 0, l2, emp, H2, N2, LU2, LD2, HU2, HD2) := by
      unfold f_X6_narrowed f_X7_narrowed
      rw [gd_t hp1, if_neg (by omega), gd_t ⟨hp1, z3⟩, if_pos hc.2, ec, Option.bind_some, gd_t hp1, f1, Option.bind_some, gd_t zRone, if_neg (by omega), em, Option.bind_some]
      dsimp only
      rcases ho with ⟨rfl, o1, o2⟩ | ⟨rfl, o1⟩
      · rcases hm with ⟨rfl, m1, m2⟩ | ⟨rfl, m1⟩
        · obtain ⟨x, x1, x2⟩ := e_ends (b := bx LU2 LD2 HU2 HD2 0) (w := p1) m2.1 hc.1 hc.2
          have x3 := e_partv m2.1 hc.1 hc.2
          rw [x3] at x1
          have x1 := Option.some.inj x1
          have x2 : f_X7_ends (LU2 0) (LD2 0) (HU2 0) (HD2 0) p1 = some x := x2
          have x4 := epv_congr (w := p1) o2.1 m2.1 (m2.2.2 _ o1) (o2.2.2 _ m1)
          rw [gd_t zRone, if_neg (by omega), e_partv o2.1 hc.1 hc.2, Option.bind_some, gd_t zR0, if_pos rfl, x2, Option.bind_some]
          exact ⟨x, by rw [x4, x1], rfl⟩
        · exact absurd o1 (m1 b)
      · rcases hm with ⟨rfl, m1, m2⟩ | ⟨rfl, m1⟩
        · exact absurd m1 (o1 _)
        · rw [gd_t zR0, if_pos rfl, gd_t zRone, if_neg (by omega)]
          exact ⟨_, rfl, rfl⟩
    obtain ⟨v, m1, m2⟩ := main
    exact ⟨v, _, _, _, _, _, _, _, _, _, _, _, _, _, m1, m2, h⟩
  · rw [if_neg hc] at f1
    refine ⟨-1, clu, cll, chu, chl, 0, mlev, memp, mHeard, mNum, mLU, mLD, mHU, mHD, ?_, ?_, h⟩
    · unfold f_X6_narrowed
      rw [gd_t hp1]
      by_cases hd : p1 < 0
      · rw [if_pos hd]
      · rw [if_neg hd, gd_t ⟨hp1, z3⟩, if_neg (by omega)]
    · unfold f_X7_narrowed
      rw [gd_t hp1, f1, Option.bind_some, gd_t zR0, if_pos rfl]
theorem m_ctail {R : Nat → Int} {z lo hi sl : Int} {T : Nat → Int} (h : zBoth R 0 z lo hi sl T) {b : zB} (hb : bok b) {i j : Nat} {w lev emp : Int} {H N LU LD HU HD : Nat → Int} (hx : bx LU LD HU HD 0 = b) (hij : i < j) (hj : j < z.toNat) (hw : zR w) : zev (st_X7_counts (i : Int) (j : Int) w R) (0, lev, emp, H, N, LU, LD, HU, HD) = some (ofR (max 0 (pG T (2 * sl) b i j - pL T (2 * sl) b i j + 1)) (pL T (2 * sl) b i j) (pG T (2 * sl) b i j) w, 0, lev, emp, H, N, LU, LD, HU, HD) := by
  have C := zCt_of h.1
  obtain ⟨v1, v2, v3, v4⟩ := p_bd C hb hij hj
  have x1 : LU 0 = b.1 := by rw [← hx]; rfl
  have x2 : LD 0 = b.2.1 := by rw [← hx]; rfl
  have x3 : HU 0 = b.2.2.1 := by rw [← hx]; rfl
  have x4 : HD 0 = b.2.2.2 := by rw [← hx]; rfl
  have ec := e_cOf h hb hx hij hj
  have el := e_lOf h hb x3 x4 hij hj
  have eg := e_gOf h hb x1 x2 hij hj
  generalize pL T (2 * sl) b i j = l at *
  generalize pG T (2 * sl) b i j = g at *
  refine zev_inr ?_
  unfold st_X7_counts ofR
  dsimp only
  rw [ec, Option.bind_some, gd_t hw]
  by_cases c0 : w = 0
  · rw [if_pos c0, if_pos c0]
  · rw [if_neg c0, if_neg c0, gd_t ⟨by omega, by omega⟩]
    by_cases c1 : max 0 (g - l + 1) = 0
    · rw [if_pos c1, if_pos (by omega)]
    · rw [if_neg c1, if_neg (show ¬ max 0 (g - l + 1) ≤ 0 by omega), gd_t ⟨hw, zRone⟩]
      by_cases c2 : w = 1
      · rw [if_pos c2, if_pos c2, el, Option.bind_some]
      · rw [if_neg c2, if_neg c2, eg, Option.bind_some]
theorem sp_counts (az : Int) (alo : Int) (ahi : Int) (asl : Int) (aT : Nat → Int) (pn : Int) (pz : Int) (pZ : Nat → Int) (pLo : Nat → Int) (pHi : Nat → Int) (pSl : Nat → Int) (pT : Nat → Nat → Int) (jZ : Nat → Int) (jLo : Nat → Int) (jHi : Nat → Int) (jSl : Nat → Int) (jT : Nat → Nat → Int) (kK : Nat → Int) (rn : Int) (rL : Nat → Int) (clu : Int) (cll : Int) (chu : Int) (chl : Int) (mmany : Int) (macts : Int) (mlev : Int) (memp : Int) (mText : Nat → Int) (mNow : Nat → Int) (mWas : Nat → Int) (mIsK : Nat → Int) (mKept : Nat → Int) (mHeard : Nat → Int) (mNum : Nat → Int) (mLU : Nat → Int) (mLD : Nat → Int) (mHU : Nat → Int) (mHD : Nat → Int) (p1 : Int) (hp1 : zR p1) (p2 : Int) (hp2 : zR p2) (p3 : Int) (hp3 : zR p3) (p4 : Int) (hp4 : zR p4) (h : zRel az alo ahi asl aT pn pz pZ pLo pHi pSl pT jZ jLo jHi jSl jT kK rn rL mmany mText mNow mWas macts mIsK mKept) : ∃ (r : Int) (clu' : Int) (cll' : Int) (chu' : Int) (chl' : Int) (mth' : Int) (mlev' : Int) (memp' : Int) (mHeard' : Nat → Int) (mNum' : Nat → Int) (mLU' : Nat → Int) (mLD' : Nat → Int) (mHU' : Nat → Int) (mHD' : Nat → Int), f_X6_counts p1 p2 p3 p4 az alo ahi asl aT clu cll chu chl = some (r, clu', cll', chu', chl') ∧ f_X7_counts p1 p2 p3 p4 mlev memp mNow mHeard mNum mLU mLD mHU mHD = some (r, mth', mlev', memp', mHeard', mNum', mLU', mLD', mHU', mHD') ∧ zRel az alo ahi asl aT pn pz pZ pLo pHi pSl pT jZ jLo jHi jSl jT kK rn rL mmany mText mNow mWas macts mIsK mKept := by
  have h' := h
  obtain ⟨hN, -⟩ := h'
  have hN' := hN
  obtain ⟨⟨a1, a2, -⟩, b1, -⟩ := hN'
  have C := zCt_of hN.1
  have z2 : zR 2 := by decide
  have e1 := e_hasArrival hp1 a1 a2
  have e2 := e_hasArrival hp2 a1 a2
  have f1 := e_isArrival (R := mNow) hp1 (by omega) (by omega)
  have f2 := e_isArrival (R := mNow) hp2 (by omega) (by omega)
  rw [b1] at f1 f2
  have f3 := e_in (a := p3) (b := 0) (c := 1) hp3 zR0 zRone
  have f4 := e_in (a := p4) (b := 0) (c := 2) hp4 zR0 z2
  by_cases hc : (0 ≤ p1 ∧ p1 < az) ∧ (0 ≤ p2 ∧ p2 < az) ∧ p1 < p2 ∧ (0 ≤ p3 ∧ p3 ≤ 1) ∧ (0 ≤ p4 ∧ p4 ≤ 2)
  · obtain ⟨c1, c2, c3, c4, c5⟩ := hc
    rw [if_pos c1] at e1 f1
    rw [if_pos c2] at e2 f2
    rw [if_pos c4] at f3
    rw [if_pos c5] at f4
    obtain ⟨i, rfl⟩ : ∃ i : Nat, p1 = (i : Int) := ⟨p1.toNat, by omega⟩
    obtain ⟨j, rfl⟩ : ∃ j : Nat, p2 = (j : Int) := ⟨p2.toNat, by omega⟩
    have hij : i < j := by omega
    have hj : j < az.toNat := by omega
    have hct : ∀ b : zB, bok b → f_X4_leastCount (i : Int) (j : Int) b.2.2.1 b.2.2.2 asl aT = some (pL aT (2 * asl) b i j) ∧ f_X4_greatestCount (i : Int) (j : Int) b.1 b.2.1 asl aT = some (pG aT (2 * asl) b i j) ∧ zR (pG aT (2 * asl) b i j - pL aT (2 * asl) b i j + 1) ∧ f_X6_ofRange (max 0 (pG aT (2 * asl) b i j - pL aT (2 * asl) b i j + 1)) (pL aT (2 * asl) b i j) (pG aT (2 * asl) b i j) p4 = some (ofR (max 0 (pG aT (2 * asl) b i j - pL aT (2 * asl) b i j + 1)) (pL aT (2 * asl) b i j) (pG aT (2 * asl) b i j) p4) := fun b hb => by
      obtain ⟨v1, v2, v3, v4⟩ := p_bd C hb hij hj
      exact ⟨e_lcount C hb hij hj, e_gcount C hb hij hj, ⟨by omega, by omega⟩, e_ofRange ⟨by omega, by omega⟩ hp4⟩
    by_cases h0 : p3 = 0
    · obtain ⟨hr, -⟩ := nRe_root C
      obtain ⟨t1, t2, t3, t4⟩ := hct (alo, 1, ahi, 1) hr.1
      have t1 : f_X4_leastCount (i : Int) (j : Int) ahi 1 asl aT = some (pL aT (2 * asl) (alo, 1, ahi, 1) i j) := t1
      have t2 : f_X4_greatestCount (i : Int) (j : Int) alo 1 asl aT = some (pG aT (2 * asl) (alo, 1, ahi, 1) i j) := t2
      obtain ⟨H3, e3, -⟩ := e_mbegin mHeard mNum mLU mLD mHU mHD hN
      have mt := m_ctail (w := p4) (lev := 0) (emp := memp) (H := H3) (N := zup mNum 0 0) (LU := zup mLU 0 alo) (LD := zup mLD 0 1) (HU := zup mHU 0 ahi) (HD := zup mHD 0 1) hN hr.1 rfl hij hj hp4
      have m1 : f_X6_counts (i : Int) (j : Int) p3 p4 az alo ahi asl aT clu cll chu chl = some (ofR (max 0 (pG aT (2 * asl) (alo, 1, ahi, 1) i j - pL aT (2 * asl) (alo, 1, ahi, 1) i j + 1)) (pL aT (2 * asl) (alo, 1, ahi, 1) i j) (pG aT (2 * asl) (alo, 1, ahi, 1) i j) p4, alo, 1, ahi, 1) := by
        unfold f_X6_counts f_X4_spread
        rw [e1, Option.bind_some, gd_t zRone, if_neg (by omega), e2, Option.bind_some, gd_t zRone, if_neg (by omega), gd_t ⟨hp1, hp2⟩, if_pos c3, gd_t hp3, if_neg (by omega), gd_t ⟨hp3, zRone⟩, if_pos c4.2, gd_t hp4, if_neg (by omega), gd_t ⟨hp4, z2⟩, if_pos c5.2, gd_t hp3, if_pos h0, Option.bind_some]
        dsimp only
        rw [t1, Option.bind_some, t2, Option.bind_some, gd_t ⟨zR0, t3⟩, t4, Option.bind_some]
      have m2 : f_X7_counts (i : Int) (j : Int) p3 p4 mlev memp mNow mHeard mNum mLU mLD mHU mHD = some (ofR (max 0 (pG aT (2 * asl) (alo, 1, ahi, 1) i j - pL aT (2 * asl) (alo, 1, ahi, 1) i j + 1)) (pL aT (2 * asl) (alo, 1, ahi, 1) i j) (pG aT (2 * asl) (alo, 1, ahi, 1) i j) p4, 0, 0, memp, H3, zup mNum 0 0, zup mLU 0 alo, zup mLD 0 1, zup mHU 0 ahi, zup mHD 0 1) := by
        unfold f_X7_counts
        rw [f1, Option.bind_some, gd_t zRone, if_neg (by omega), f2, Option.bind_some, gd_t zRone, if_neg (by omega), gd_t ⟨hp1, hp2⟩, if_pos c3, gd_t hp3, f3, Option.bind_some, gd_t zRone, if_neg (by omega), gd_t hp4, f4, Option.bind_some, gd_t zRone, if_neg (by omega), gd_t ⟨hp3, zRone⟩, if_neg (by omega), e3, Option.bind_some]
        exact mt
      exact ⟨_, _, _, _, _, _, _, _, _, _, _, _, _, _, m1, m2, h⟩
    · obtain ⟨r, b, ec, ho⟩ := e_narrow hN.1
      obtain ⟨l2, emp, H2, N2, LU2, LD2, HU2, HD2, em, hm⟩ := e_mnarrow mHeard mNum mLU mLD mHU mHD hN
      have main : ∃ v : Int, f_X6_counts (i : Int) (j : Int) p3 p4 az alo ahi asl aT clu cll chu chl = some (v, b.1, b.2.1, b.2.2.1, b.2.2.2) ∧ f_X7_counts (i : Int) (j : Int) p3 p4 mlev memp mNow mHeard mNum mLU mLD mHU mHD = some (v, 0, l2, emp, H2, N2, LU2, LD2, HU2, HD2) := by
        unfold f_X6_counts f_X7_counts
        rw [e1, Option.bind_some, gd_t zRone, if_neg (by omega), e2, Option.bind_some, gd_t zRone, if_neg (by omega), gd_t ⟨hp1, hp2⟩, if_pos c3, gd_t hp3, if_neg (by omega), gd_t ⟨hp3, zRone⟩, if_pos c4.2, gd_t hp4, if_neg (by omega), gd_t ⟨hp4, z2⟩, if_pos c5.2, gd_t hp3, if_neg h0, ec, Option.bind_some]
        rw [f1, Option.bind_some, gd_t zRone, if_neg (by omega), f2, Option.bind_some, gd_t zRone, if_neg (by omega), gd_t ⟨hp1, hp2⟩, if_pos c3, gd_t hp3, f3, Option.bind_some, gd_t zRone, if_neg (by omega), gd_t hp4, f4, Option.bind_some, gd_t zRone, if_neg (by omega), gd_t ⟨hp3, zRone⟩, if_pos (by omega), em, Option.bind_some]
        dsimp only
        rcases ho with ⟨rfl, o1, o2⟩ | ⟨rfl, o1⟩
        · rcases hm with ⟨rfl, m1, m2⟩ | ⟨rfl, m1⟩
          · obtain ⟨t1, t2, t3, t4⟩ := hct b o2.1
            have mt := m_ctail (w := p4) (lev := l2) (emp := 0) (H := H2) (N := N2) (LU := LU2) (LD := LD2) (HU := HU2) (HD := HD2) hN m2.1 rfl hij hj hp4
            obtain ⟨x1, x2⟩ := p_congr C m2.1 o2.1 (o2.2.2 _ m1) (m2.2.2 _ o1) hij hj
            rw [x1, x2] at mt
            rw [gd_t zRone, if_neg (by omega), t1, Option.bind_some, t2, Option.bind_some, gd_t ⟨zR0, t3⟩, t4, Option.bind_some, gd_t zR0, if_pos rfl, mt]
            exact ⟨_, rfl, rfl⟩
          · exact absurd o1 (m1 b)
        · rcases hm with ⟨rfl, m1, m2⟩ | ⟨rfl, m1⟩
          · exact absurd m1 (o1 _)
          · rw [gd_t zR0, if_pos rfl, gd_t zRone, if_neg (by omega)]
            exact ⟨_, rfl, rfl⟩
      obtain ⟨v, m1, m2⟩ := main
      exact ⟨v, _, _, _, _, _, _, _, _, _, _, _, _, _, m1, m2, h⟩
  · refine ⟨-1, clu, cll, chu, chl, 0, mlev, memp, mHeard, mNum, mLU, mLD, mHU, mHD, ?_, ?_, h⟩
    · unfold f_X6_counts
      rw [e1, Option.bind_some]
      by_cases c1 : 0 ≤ p1 ∧ p1 < az
      · rw [if_pos c1, gd_t zRone, if_neg (by omega), e2, Option.bind_some]
        by_cases c2 : 0 ≤ p2 ∧ p2 < az
        · rw [if_pos c2, gd_t zRone, if_neg (by omega), gd_t ⟨hp1, hp2⟩]
          by_cases c3 : p1 < p2
          · rw [if_pos c3, gd_t hp3]
            by_cases c4 : p3 < 0
            · rw [if_pos c4]
            · rw [if_neg c4, gd_t ⟨hp3, zRone⟩]
              by_cases c5 : p3 ≤ 1
              · rw [if_pos c5, gd_t hp4]
                by_cases c6 : p4 < 0
                · rw [if_pos c6]
                · rw [if_neg c6, gd_t ⟨hp4, z2⟩, if_neg (by omega)]
              · rw [if_neg c5]
          · rw [if_neg c3]
        · rw [if_neg c2, gd_t zR0, if_pos rfl]
      · rw [if_neg c1, gd_t zR0, if_pos rfl]
    · unfold f_X7_counts
      rw [f1, Option.bind_some]
      by_cases c1 : 0 ≤ p1 ∧ p1 < az
      · rw [if_pos c1, gd_t zRone, if_neg (by omega), f2, Option.bind_some]
        by_cases c2 : 0 ≤ p2 ∧ p2 < az
        · rw [if_pos c2, gd_t zRone, if_neg (by omega), gd_t ⟨hp1, hp2⟩]
          by_cases c3 : p1 < p2
          · rw [if_pos c3, gd_t hp3, f3, Option.bind_some]
            by_cases c4 : 0 ≤ p3 ∧ p3 ≤ 1
            · rw [if_pos c4, gd_t zRone, if_neg (by omega), gd_t hp4, f4, Option.bind_some, if_neg (by omega), gd_t zR0, if_pos rfl]
            · rw [if_neg c4, gd_t zR0, if_pos rfl]
          · rw [if_neg c3]
        · rw [if_neg c2, gd_t zR0, if_pos rfl]
      · rw [if_neg c1, gd_t zR0, if_pos rfl]
