/-! PURE: left, bend -/
theorem e_mleftBy (Fr H N LU LD HU HD : Nat → Int) {R : Nat → Int} {z lo hi sl t : Int} {T T2 : Nat → Int} {q : Nat} (h : zBoth R 0 z lo hi sl T) (h6 : z ≤ 6) (ht0 : 0 ≤ t) (ht : t ≤ 2999) (hne : ∀ k : Nat, (k : Int) < z → T k ≠ t) (hi6 : zIns z T t q T2) (c1 : ∀ k : Nat, q ≤ k → (k : Int) < z → t < T k) (c2 : 0 < q → T (q - 1) ≤ t) : zHear (z + 1) lo hi sl T2 ∧ ∃ (l2 : Int) (F2 H2 N2 LU2 LD2 HU2 HD2 : Nat → Int), f_X7_leftBy t R Fr H N LU LD HU HD = some (((tA (z + 1).toNat T2 (2 * sl) lo hi).length : Int), l2, F2, H2, N2, LU2, LD2, HU2, HD2) := by
  obtain ⟨R1, e1, g1⟩ := e_copyAll R Fr
  have hb1 : zBoth R1 0 z lo hi sl T := zBoth_of h (fun j hj => by rw [Nat.zero_add]; exact g1 j hj) (fun _ _ => rfl)
  obtain ⟨w1, w2⟩ := zRz hb1
  have hb1' := hb1
  obtain ⟨⟨a1, a2, a3, a4, a5, a6, a7, a8, a9, a10⟩, b1, b2, b3, b4, b5⟩ := hb1'
  have b5' : ∀ k : Nat, (k : Int) < z → R1 (4 + k) = T k := fun k hk => by rw [← b5 k hk, Nat.zero_add]
  obtain ⟨R2, q7, e7, s0, s1, s2, s3, i7, d1, d2⟩ := e_put (p1 := t) ⟨by omega, by omega⟩ (R := R1) (by omega) (by omega) w2 (fun k hk => by rw [b5' k (by omega)]; exact hne k (by omega))
  obtain ⟨-, hb⟩ := zBoth_ins hb1 h6 ht0 ht hne hi6 c1 c2 s0 s1 s2 s3 i7 d1 d2
  obtain ⟨l3, H3, N3, LU3, LD3, HU3, HD3, em⟩ := e_mstand_f H N LU LD HU HD hb
  refine ⟨hb.1, l3, R2, H3, N3, LU3, LD3, HU3, HD3, ?_⟩
  unfold f_X7_leftBy
  rw [e1, Option.bind_some, e7, Option.bind_some, em, Option.bind_some]
theorem m_left1 {p1 mlev : Int} {mNow mFresh mHeard mNum mLU mLD mHU mHD : Nat → Int} (hp1 : zR p1) (h1 : ¬ (0 ≤ p1 ∧ p1 ≤ 2999)) : f_X7_left p1 mlev mNow mFresh mHeard mNum mLU mLD mHU mHD = some (-1, 0, mlev, mFresh, mHeard, mNum, mLU, mLD, mHU, mHD) := by
  have ei := e_in (a := p1) (b := 0) (c := 2999) hp1 zR0 (by decide)
  rw [if_neg h1] at ei
  unfold f_X7_left
  rw [ei, gd_t hp1, Option.bind_some, gd_t zR0, if_pos rfl]
theorem m_left2 {p1 mlev r : Int} {mNow mFresh mHeard mNum mLU mLD mHU mHD : Nat → Int} (hp1 : zR p1) (h1 : 0 ≤ p1 ∧ p1 ≤ 2999) (e : f_X7_placeOf p1 mNow = some r) (h0 : 0 ≤ r) (h7 : r ≤ 7) : f_X7_left p1 mlev mNow mFresh mHeard mNum mLU mLD mHU mHD = some (-2, 0, mlev, mFresh, mHeard, mNum, mLU, mLD, mHU, mHD) := by
  have ei := e_in (a := p1) (b := 0) (c := 2999) hp1 zR0 (by decide)
  rw [if_pos h1] at ei
  unfold f_X7_left
  rw [ei, gd_t hp1, Option.bind_some, gd_t zRone, if_neg (by omega), e, Option.bind_some, gd_t ⟨by omega, by omega⟩, if_neg (by omega)]
theorem m_left3 {p1 mlev r : Int} {mNow mFresh mHeard mNum mLU mLD mHU mHD : Nat → Int} (hp1 : zR p1) (h1 : 0 ≤ p1 ∧ p1 ≤ 2999) (e : f_X7_placeOf p1 mNow = some r) (h0 : r < 0) (h8 : -8 ≤ r) (h7 : mNow 0 = 7) : f_X7_left p1 mlev mNow mFresh mHeard mNum mLU mLD mHU mHD = some (-3, 0, mlev, mFresh, mHeard, mNum, mLU, mLD, mHU, mHD) := by
  have ei := e_in (a := p1) (b := 0) (c := 2999) hp1 zR0 (by decide)
  rw [if_pos h1] at ei
  unfold f_X7_left
  rw [ei, gd_t hp1, Option.bind_some, gd_t zRone, if_neg (by omega), e, Option.bind_some, gd_t ⟨by omega, by omega⟩, if_pos h0, gd_t ⟨⟨by omega, by omega⟩, by decide⟩, if_pos h7]
theorem m_left4 {p1 mlev r v l2 : Int} {mNow mFresh mHeard mNum mLU mLD mHU mHD F2 H2 N2 LU2 LD2 HU2 HD2 : Nat → Int} (hp1 : zR p1) (h1 : 0 ≤ p1 ∧ p1 ≤ 2999) (e : f_X7_placeOf p1 mNow = some r) (h0 : r < 0) (h8 : -8 ≤ r) (h7 : 0 ≤ mNow 0 ∧ mNow 0 < 7) (el : f_X7_leftBy p1 mNow mFresh mHeard mNum mLU mLD mHU mHD = some (v, l2, F2, H2, N2, LU2, LD2, HU2, HD2)) : f_X7_left p1 mlev mNow mFresh mHeard mNum mLU mLD mHU mHD = some (v, 0, l2, F2, H2, N2, LU2, LD2, HU2, HD2) := by
  have ei := e_in (a := p1) (b := 0) (c := 2999) hp1 zR0 (by decide)
  rw [if_pos h1] at ei
  unfold f_X7_left
  rw [ei, gd_t hp1, Option.bind_some, gd_t zRone, if_neg (by omega), e, Option.bind_some, gd_t ⟨by omega, by omega⟩, if_pos h0, gd_t ⟨⟨by omega, by omega⟩, by decide⟩, if_neg (by omega), el, Option.bind_some]
theorem sp_left (az : Int) (alo : Int) (ahi : Int) (asl : Int) (aT : Nat → Int) (bz : Int) (blo : Int) (bhi : Int) (bsl : Int) (bT : Nat → Int) (pn : Int) (pz : Int) (pZ : Nat → Int) (pLo : Nat → Int) (pHi : Nat → Int) (pSl : Nat → Int) (pT : Nat → Nat → Int) (jZ : Nat → Int) (jLo : Nat → Int) (jHi : Nat → Int) (jSl : Nat → Int) (jT : Nat → Nat → Int) (kK : Nat → Int) (rn : Int) (rL : Nat → Int) (nz : Int) (nr : Int) (nb : Int) (ne : Int) (nT : Nat → Int) (nN : Nat → Int) (nG : Nat → Int) (nLU : Nat → Int) (nLL : Nat → Int) (nHU : Nat → Int) (nHL : Nat → Int) (mmany : Int) (macts : Int) (mlev : Int) (mText : Nat → Int) (mNow : Nat → Int) (mFresh : Nat → Int) (mWas : Nat → Int) (mIsK : Nat → Int) (mKept : Nat → Int) (mHeard : Nat → Int) (mNum : Nat → Int) (mLU : Nat → Int) (mLD : Nat → Int) (mHU : Nat → Int) (mHD : Nat → Int) (p1 : Int) (hp1 : zR p1) (h : zRel az alo ahi asl aT pn pz pZ pLo pHi pSl pT jZ jLo jHi jSl jT kK rn rL mmany mText mNow mWas macts mIsK mKept) : ∃ (r : Int) (bz' : Int) (blo' : Int) (bhi' : Int) (bsl' : Int) (bT' : Nat → Int) (nz' : Int) (nr' : Int) (nb' : Int) (ne' : Int) (nT' : Nat → Int) (nN' : Nat → Int) (nG' : Nat → Int) (nLU' : Nat → Int) (nLL' : Nat → Int) (nHU' : Nat → Int) (nHL' : Nat → Int) (mth' : Int) (mlev' : Int) (mFresh' : Nat → Int) (mHeard' : Nat → Int) (mNum' : Nat → Int) (mLU' : Nat → Int) (mLD' : Nat → Int) (mHU' : Nat → Int) (mHD' : Nat → Int), f_X6_left p1 az alo ahi asl aT bz blo bhi bsl bT nz nr nb ne nT nN nG nLU nLL nHU nHL = some (r, bz', blo', bhi', bsl', bT', nz', nr', nb', ne', nT', nN', nG', nLU', nLL', nHU', nHL') ∧ f_X7_left p1 mlev mNow mFresh mHeard mNum mLU mLD mHU mHD = some (r, mth', mlev', mFresh', mHeard', mNum', mLU', mLD', mHU', mHD') ∧ zRel az alo ahi asl aT pn pz pZ pLo pHi pSl pT jZ jLo jHi jSl jT kK rn rL mmany mText mNow mWas macts mIsK mKept := by
  have h' := h
  obtain ⟨hN, -⟩ := h'
  obtain ⟨w1, w2⟩ := zRz hN
  have hN' := hN
  obtain ⟨⟨a1, a2, a3, a4, a5, a6, a7, a8, a9, a10⟩, b1, b2, b3, b4, b5⟩ := hN'
  have b5' : ∀ k : Nat, (k : Int) < az → mNow (4 + k) = aT k := fun k hk => by rw [← b5 k hk, Nat.zero_add]
  obtain ⟨r1, e1, h1⟩ := e_refuses hp1 a1 a2 w1
  obtain ⟨r2, e2, q, g1, g2, g3⟩ := e_placeOf hp1 (R := mNow) (by omega) (by omega) w2
  have m2 : zR (-2) := by decide
  have m3 : zR (-3) := by decide
  have m1 : zR (-1) := by decide
  rcases h1 with ⟨rfl, h1⟩ | ⟨rfl, h1, k, hk1, hk2⟩ | ⟨rfl, h1, h2, h3⟩ | ⟨rfl, h1, h2, h3⟩
  · refine ⟨-1, bz, blo, bhi, bsl, bT, nz, nr, nb, ne, nT, nN, nG, nLU, nLL, nHU, nHL, 0, mlev, mFresh, mHeard, mNum, mLU, mLD, mHU, mHD, ?_, m_left1 hp1 h1, h⟩
    unfold f_X6_left
    rw [e1, Option.bind_some, gd_t m1, if_neg (by omega)]
  · have e3 := e_rplace hN hp1 hk1 hk2
    refine ⟨-2, bz, blo, bhi, bsl, bT, nz, nr, nb, ne, nT, nN, nG, nLU, nLL, nHU, nHL, 0, mlev, mFresh, mHeard, mNum, mLU, mLD, mHU, mHD, ?_, m_left2 hp1 h1 e3 (by omega) (by omega), h⟩
    unfold f_X6_left
    rw [e1, Option.bind_some, gd_t m2, if_neg (by omega)]
  · have hr : r2 < 0 ∧ -8 ≤ r2 := by
      rcases g3 with ⟨v1, v2, -⟩ | ⟨-, v⟩
      · exact absurd (by rw [← b5' q (by omega)]; exact v2) (h2 q (by omega))
      · omega
    refine ⟨-3, bz, blo, bhi, bsl, bT, nz, nr, nb, ne, nT, nN, nG, nLU, nLL, nHU, nHL, 0, mlev, mFresh, mHeard, mNum, mLU, mLD, mHU, mHD, ?_, m_left3 hp1 h1 e2 hr.1 hr.2 (by omega), h⟩
    unfold f_X6_left
    rw [e1, Option.bind_some, gd_t m3, if_neg (by omega)]
  · have hr : r2 < 0 ∧ -8 ≤ r2 := by
      rcases g3 with ⟨v1, v2, -⟩ | ⟨-, v⟩
      · exact absurd (by rw [← b5' q (by omega)]; exact v2) (h2 q (by omega))
      · omega
    obtain ⟨S, e4, hS⟩ := e_take bz blo bhi bsl bT az alo ahi asl aT
    obtain ⟨q6, T2, e6, i6, c1, c2⟩ := e_place (T := S) hp1 a1 (by omega) (fun k hk => by rw [hS k (by omega)]; exact w1 k hk)
    have hNS : zBoth mNow 0 az alo ahi asl S := zBoth_of hN (fun _ _ => rfl) (fun k hk => hS k hk)
    obtain ⟨hH, l3, F3, H3, N3, LU3, LD3, HU3, HD3, em⟩ := e_mleftBy mFresh mHeard mNum mLU mLD mHU mHD hNS (by omega) h1.1 h1.2 (fun k hk => by rw [hS k (by omega)]; exact h2 k hk) i6 c1 c2
    obtain ⟨b2, ee, T3, N2, G2, LU, LL, HU, HL, ec⟩ := e_cstand_b nz nr nb ne nT nN nG nLU nLL nHU nHL hH
    have m1 : f_X6_left p1 az alo ahi asl aT bz blo bhi bsl bT nz nr nb ne nT nN nG nLU nLL nHU nHL = some (((tA (az + 1).toNat T2 (2 * asl) alo ahi).length : Int), az + 1, alo, ahi, asl, T2, az + 1, 2 * asl, b2, ee, T3, N2, G2, LU, LL, HU, HL) := by
      unfold f_X6_left
      rw [e1, Option.bind_some, gd_t zR0, if_pos rfl, e4, Option.bind_some]
      dsimp only
      rw [e6, Option.bind_some]
      dsimp only
      rw [ec, Option.bind_some]
    exact ⟨_, _, _, _, _, _, _, _, _, _, _, _, _, _, _, _, _, _, _, _, _, _, _, _, _, _, m1, m_left4 hp1 h1 e2 hr.1 hr.2 (by omega) em, h⟩
theorem bend_bd {a b c d : Int} (ha : 0 ≤ a) (ha2 : a ≤ 3000) (hb : 1 ≤ b) (hb2 : b ≤ 320) (hc : 0 ≤ c) (hc2 : c ≤ 3000) (hd : 1 ≤ d) (hd2 : d ≤ 320) : -2147483648 < a * b - c * d ∧ a * b - c * d < 2147483648 ∧ 0 < b * d ∧ b * d < 16777216 := by
  have h1 := zm_bd (x := a) (y := b) (by omega) (by omega) (by omega) (by omega)
  have h2 := zm_bd (x := c) (y := d) (by omega) (by omega) (by omega) (by omega)
  have h3 := zm_bd (x := b) (y := d) (by omega) (by omega) (by omega) (by omega)
  have h4 : 0 < b * d := Int.mul_pos (by omega) (by omega)
  omega
theorem e_apart2 {R : Nat → Int} {z lo hi sl p q : Int} {T : Nat → Int} (h : zBoth R 0 z lo hi sl T) (hp : 0 ≤ p ∧ p < z) (hq : 0 ≤ q ∧ q < z) : f_X7_apart p q R = some (T q.toNat - T p.toNat) := by
  obtain ⟨⟨a1, a2, a3, a4, a5, a6, a7, a8, a9, a10⟩, b1, b2, b3, b4, b5⟩ := h
  have u1 := b5 p.toNat (by omega)
  have u2 := b5 q.toNat (by omega)
  rw [show 0 + 4 + p.toNat = Int.toNat (4 + p) by omega] at u1
  rw [show 0 + 4 + q.toNat = Int.toNat (4 + q) by omega] at u2
  unfold f_X7_apart
  rw [gd_t ⟨by omega, by omega⟩, gd_t ⟨by omega, by omega⟩, u1, u2]
theorem sp_bend (az : Int) (alo : Int) (ahi : Int) (asl : Int) (aT : Nat → Int) (pn : Int) (pz : Int) (pZ : Nat → Int) (pLo : Nat → Int) (pHi : Nat → Int) (pSl : Nat → Int) (pT : Nat → Nat → Int) (jZ : Nat → Int) (jLo : Nat → Int) (jHi : Nat → Int) (jSl : Nat → Int) (jT : Nat → Nat → Int) (kK : Nat → Int) (rn : Int) (rL : Nat → Int) (nz : Int) (nr : Int) (nb : Int) (ne : Int) (nT : Nat → Int) (nN : Nat → Int) (nG : Nat → Int) (nLU : Nat → Int) (nLL : Nat → Int) (nHU : Nat → Int) (nHL : Nat → Int) (mmany : Int) (macts : Int) (mlev : Int) (mText : Nat → Int) (mNow : Nat → Int) (mWas : Nat → Int) (mIsK : Nat → Int) (mKept : Nat → Int) (mHeard : Nat → Int) (mNum : Nat → Int) (mLU : Nat → Int) (mLD : Nat → Int) (mHU : Nat → Int) (mHD : Nat → Int) (p1 : Int) (hp1 : zR p1) (p2 : Int) (hp2 : zR p2) (p3 : Int) (hp3 : zR p3) (p4 : Int) (hp4 : zR p4) (h : zRel az alo ahi asl aT pn pz pZ pLo pHi pSl pT jZ jLo jHi jSl jT kK rn rL mmany mText mNow mWas macts mIsK mKept) : ∃ (r : Int) (nz' : Int) (nr' : Int) (nb' : Int) (ne' : Int) (nT' : Nat → Int) (nN' : Nat → Int) (nG' : Nat → Int) (nLU' : Nat → Int) (nLL' : Nat → Int) (nHU' : Nat → Int) (nHL' : Nat → Int) (mth' : Int) (mlev' : Int) (mHeard' : Nat → Int) (mNum' : Nat → Int) (mLU' : Nat → Int) (mLD' : Nat → Int) (mHU' : Nat → Int) (mHD' : Nat → Int), f_X6_bend p1 p2 p3 p4 az alo ahi asl aT nz nr nb ne nT nN nG nLU nLL nHU nHL = some (r, nz', nr', nb', ne', nT', nN', nG', nLU', nLL', nHU', nHL') ∧ f_X7_bend p1 p2 p3 p4 mlev mNow mHeard mNum mLU mLD mHU mHD = some (r, mth', mlev', mHeard', mNum', mLU', mLD', mHU', mHD') ∧ zRel az alo ahi asl aT pn pz pZ pLo pHi pSl pT jZ jLo jHi jSl jT kK rn rL mmany mText mNow mWas macts mIsK mKept := by
  have h' := h
  obtain ⟨hN, -⟩ := h'
  have hN' := hN
  obtain ⟨⟨a1, a2, a3, a4, a5, a6, a7, a8, a9, a10⟩, b1, -⟩ := hN'
  have e1 := e_hasArrival hp1 a1 a2
  have e2 := e_hasArrival hp2 a1 a2
  have e3 := e_hasArrival hp3 a1 a2
  have f1 := e_isArrival (R := mNow) hp1 (by omega) (by omega)
  have f3 := e_isArrival (R := mNow) hp3 (by omega) (by omega)
  rw [b1] at f1 f3
  have f4 := e_in (a := p4) (b := 0) (c := 1) hp4 zR0 zRone
  by_cases hc : (0 ≤ p1 ∧ p1 < az) ∧ (0 ≤ p2 ∧ p2 < az) ∧ (0 ≤ p3 ∧ p3 < az) ∧ p1 < p2 ∧ p2 < p3 ∧ (0 ≤ p4 ∧ p4 ≤ 1)
  · obtain ⟨c1, c2, c3, c4, c5, c6⟩ := hc
    rw [if_pos c1] at e1 f1
    rw [if_pos c2] at e2
    rw [if_pos c3] at e3 f3
    rw [if_pos c6] at f4
    obtain ⟨r, z2, s2, b2, ee, T2, N2, G2, LU2, LL2, HU2, HL2, eg, hg⟩ := e_goesTo nz nr nb ne nT nN nG nLU nLL nHU nHL hN.1 zR0 (by omega)
    obtain ⟨q, l3, H3, N3, LU3, LD3, HU3, HD3, ei, hq⟩ := e_isNum mHeard mNum mLU mLD mHU mHD hN zR0 (by omega)
    have main : ∃ v : Int, f_X6_bend p1 p2 p3 p4 az alo ahi asl aT nz nr nb ne nT nN nG nLU nLL nHU nHL = some (v, z2, s2, b2, ee, T2, N2, G2, LU2, LL2, HU2, HL2) ∧ f_X7_bend p1 p2 p3 p4 mlev mNow mHeard mNum mLU mLD mHU mHD = some (v, 0, l3, H3, N3, LU3, LD3, HU3, HD3) := by
      unfold f_X6_bend f_X7_bend
      rw [e1, Option.bind_some, gd_t zRone, if_neg (by omega), e2, Option.bind_some, gd_t zRone, if_neg (by omega), e3, Option.bind_some, gd_t zRone, if_neg (by omega), gd_t ⟨hp1, hp2⟩, if_pos c4, gd_t ⟨hp2, hp3⟩, if_pos c5, gd_t hp4, if_neg (by omega), gd_t ⟨hp4, zRone⟩, if_pos c6.2, eg, Option.bind_some]
      rw [f1, Option.bind_some, gd_t zRone, if_neg (by omega), f3, Option.bind_some, gd_t zRone, if_neg (by omega), gd_t ⟨hp1, hp2⟩, if_pos c4, gd_t ⟨hp2, hp3⟩, if_pos c5, gd_t hp4, f4, Option.bind_some, gd_t zRone, if_neg (by omega), ei, Option.bind_some]
      dsimp only
      rcases hg with ⟨rfl, -, w, w1, w2, w3⟩ | ⟨rfl, w1⟩
      · rcases hq with ⟨rfl, v, v1, v2, v3⟩ | ⟨rfl, v1⟩
        · rw [w1] at v1
          have hv : w = v := Option.some.inj v1
          subst hv
          obtain ⟨k0, kI, kl⟩ := tA_mem (zCt_of hN.1) w1
          have n1 : ∀ p : Int, 0 ≤ p → p < az → N2 p.toNat = nth w.1 p.toNat := fun p x y => by rw [← w2, pre_nth N2 _ _ (by omega)]
          have n2 : ∀ p : Int, 0 ≤ p → p < az → N3 p.toNat = nth w.1 p.toNat := fun p x y => by rw [← v2, pre_nth N3 _ _ (by omega)]
          have i1 := t_lt kI.2.2.1 (show p1.toNat < p2.toNat by omega) (by omega)
          have i2 := t_lt kI.2.2.1 (show p2.toNat < p3.toNat by omega) (by omega)
          have j1 := tI_nth kI (show p1.toNat < w.1.length by omega)
          have j2 := tI_nth kI (show p2.toNat < w.1.length by omega)
          have j3 := tI_nth kI (show p3.toNat < w.1.length by omega)
          have j4 := kI.2.2.2.1
          have t1 := t_lt a10 (show p1.toNat < p2.toNat by omega) (by omega)
          have t2 := t_lt a10 (show p2.toNat < p3.toNat by omega) (by omega)
          have t3 := a9 p1.toNat (by omega)
          have t4 := a9 p3.toNat (by omega)
          rw [gd_t zRone, if_neg (by omega), gd_t ⟨by omega, by omega⟩, gd_t ⟨by omega, by omega⟩, zlt_t, gd_t ⟨by omega, by omega⟩, gd_t ⟨by omega, by omega⟩, zlt_t, gd_t ⟨by omega, by omega⟩, gd_t ⟨by omega, by omega⟩, zlt_t, gd_t ⟨by omega, by omega⟩, gd_t ⟨by omega, by omega⟩, zlt_t, zlt_t]
          rw [gd_t zRone, if_neg (by omega), gd_t ⟨by omega, by omega⟩, gd_t ⟨by omega, by omega⟩, zlt_t, gd_t ⟨by omega, by omega⟩, gd_t ⟨by omega, by omega⟩, zlt_t, e_apart2 hN c2 c3, Option.bind_some, e_apart2 hN c1 c2, Option.bind_some, zlt_t, gd_t hp4]
          rw [n1 p1 c1.1 c1.2, n1 p2 c2.1 c2.2, n1 p3 c3.1 c3.2, n2 p1 c1.1 c1.2, n2 p2 c2.1 c2.2, n2 p3 c3.1 c3.2]
          generalize nth w.1 p1.toNat = x1 at *
          generalize nth w.1 p2.toNat = x2 at *
          generalize nth w.1 p3.toNat = x3 at *
          generalize aT p1.toNat = y1 at *
          generalize aT p2.toNat = y2 at *
          generalize aT p3.toNat = y3 at *
          obtain ⟨d1, d2, d3, d4⟩ := bend_bd (a := y3 - y2) (b := x2 - x1) (c := y2 - y1) (d := x3 - x2) (by omega) (by omega) (by omega) (by omega) (by omega) (by omega) (by omega) (by omega)
          obtain ⟨l1, l2⟩ := e_least d1 d2 d3 d4
          rw [e_part d1 d2 d3 d4 hp4, Option.bind_some]
          by_cases h0 : p4 = 0
          · rw [if_pos h0, l1, Option.bind_some, h0]
            exact ⟨_, rfl, rfl⟩
          · rw [if_neg h0, l2, Option.bind_some, show p4 = 1 by omega]
            exact ⟨_, rfl, rfl⟩
        · rw [w1] at v1; cases v1
      · rcases hq with ⟨rfl, v, v1, v2, v3⟩ | ⟨rfl, v1⟩
        · rw [w1] at v1; cases v1
        · rw [gd_t zR0, if_pos rfl, gd_t zR0, if_pos rfl]
          exact ⟨_, rfl, rfl⟩
    obtain ⟨v, m1, m2⟩ := main
    exact ⟨v, _, _, _, _, _, _, _, _, _, _, _, _, _, _, _, _, _, _, _, m1, m2, h⟩
  · refine ⟨-1000000, nz, nr, nb, ne, nT, nN, nG, nLU, nLL, nHU, nHL, 0, mlev, mHeard, mNum, mLU, mLD, mHU, mHD, ?_, ?_, h⟩
    · unfold f_X6_bend
      rw [e1, Option.bind_some]
      by_cases c1 : 0 ≤ p1 ∧ p1 < az
      · rw [if_pos c1, gd_t zRone, if_neg (by omega), e2, Option.bind_some]
        by_cases c2 : 0 ≤ p2 ∧ p2 < az
        · rw [if_pos c2, gd_t zRone, if_neg (by omega), e3, Option.bind_some]
          by_cases c3 : 0 ≤ p3 ∧ p3 < az
          · rw [if_pos c3, gd_t zRone, if_neg (by omega), gd_t ⟨hp1, hp2⟩]
            by_cases c4 : p1 < p2
            · rw [if_pos c4, gd_t ⟨hp2, hp3⟩]
              by_cases c5 : p2 < p3
              · rw [if_pos c5, gd_t hp4]
                by_cases c6 : p4 < 0
                · rw [if_pos c6]
                · rw [if_neg c6, gd_t ⟨hp4, zRone⟩, if_neg (by omega)]
              · rw [if_neg c5]
            · rw [if_neg c4]
          · rw [if_neg c3, gd_t zR0, if_pos rfl]
        · rw [if_neg c2, gd_t zR0, if_pos rfl]
      · rw [if_neg c1, gd_t zR0, if_pos rfl]
    · unfold f_X7_bend
      rw [f1, Option.bind_some]
      by_cases c1 : 0 ≤ p1 ∧ p1 < az
      · rw [if_pos c1, gd_t zRone, if_neg (by omega), f3, Option.bind_some]
        by_cases c3 : 0 ≤ p3 ∧ p3 < az
        · rw [if_pos c3, gd_t zRone, if_neg (by omega), gd_t ⟨hp1, hp2⟩]
          by_cases c4 : p1 < p2
          · rw [if_pos c4, gd_t ⟨hp2, hp3⟩]
            by_cases c5 : p2 < p3
            · rw [if_pos c5, gd_t hp4, f4, Option.bind_some, if_neg (by omega), gd_t zR0, if_pos rfl]
            · rw [if_neg c5]
          · rw [if_neg c4]
        · rw [if_neg c3, gd_t zR0, if_pos rfl]
      · rw [if_neg c1, gd_t zR0, if_pos rfl]
