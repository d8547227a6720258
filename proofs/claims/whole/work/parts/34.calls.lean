/-! PURE: boxes, number, box, left, bend -/
theorem zRone : zR 1 := by decide
theorem tA_mem {k : Nat} {t : Nat → Int} {s lo hi : Int} {w : List Int × zB} {p : Nat} (C : zCt k t s lo hi) (h : (tA k t s lo hi)[p]? = some w) : 0 < k ∧ tI t s lo hi w.1 w.2 ∧ w.1.length = k := by
  have hm := List.mem_of_getElem? h
  unfold tA at hm
  by_cases hk : k = 0
  · rw [if_pos hk] at hm; exact absurd hm List.not_mem_nil
  · rw [if_neg hk] at hm
    obtain ⟨h1, -, h3⟩ := tE_mem C (k - 1) [0] _ w (tI_root C) (by simp only [List.length_cons, List.length_nil]; omega) hm
    exact ⟨by omega, h1, h3⟩
theorem sp_number (az : Int) (alo : Int) (ahi : Int) (asl : Int) (aT : Nat → Int) (pn : Int) (pz : Int) (pZ : Nat → Int) (pLo : Nat → Int) (pHi : Nat → Int) (pSl : Nat → Int) (pT : Nat → Nat → Int) (jZ : Nat → Int) (jLo : Nat → Int) (jHi : Nat → Int) (jSl : Nat → Int) (jT : Nat → Nat → Int) (kK : Nat → Int) (rn : Int) (rL : Nat → Int) (nz : Int) (nr : Int) (nb : Int) (ne : Int) (nT : Nat → Int) (nN : Nat → Int) (nG : Nat → Int) (nLU : Nat → Int) (nLL : Nat → Int) (nHU : Nat → Int) (nHL : Nat → Int) (mmany : Int) (macts : Int) (mlev : Int) (mText : Nat → Int) (mNow : Nat → Int) (mWas : Nat → Int) (mIsK : Nat → Int) (mKept : Nat → Int) (mHeard : Nat → Int) (mNum : Nat → Int) (mLU : Nat → Int) (mLD : Nat → Int) (mHU : Nat → Int) (mHD : Nat → Int) (p1 : Int) (hp1 : zR p1) (p2 : Int) (hp2 : zR p2) (h : zRel az alo ahi asl aT pn pz pZ pLo pHi pSl pT jZ jLo jHi jSl jT kK rn rL mmany mText mNow mWas macts mIsK mKept) : ∃ (r : Int) (nz' : Int) (nr' : Int) (nb' : Int) (ne' : Int) (nT' : Nat → Int) (nN' : Nat → Int) (nG' : Nat → Int) (nLU' : Nat → Int) (nLL' : Nat → Int) (nHU' : Nat → Int) (nHL' : Nat → Int) (mth' : Int) (mlev' : Int) (mHeard' : Nat → Int) (mNum' : Nat → Int) (mLU' : Nat → Int) (mLD' : Nat → Int) (mHU' : Nat → Int) (mHD' : Nat → Int), f_X6_number p1 p2 az alo ahi asl aT nz nr nb ne nT nN nG nLU nLL nHU nHL = some (r, nz', nr', nb', ne', nT', nN', nG', nLU', nLL', nHU', nHL') ∧ f_X7_number p1 p2 mlev mNow mHeard mNum mLU mLD mHU mHD = some (r, mth', mlev', mHeard', mNum', mLU', mLD', mHU', mHD') ∧ zRel az alo ahi asl aT pn pz pZ pLo pHi pSl pT jZ jLo jHi jSl jT kK rn rL mmany mText mNow mWas macts mIsK mKept := by
  have h' := h
  obtain ⟨hN, -⟩ := h'
  have hN' := hN
  obtain ⟨⟨a1, a2, -⟩, b1, -⟩ := hN'
  have eh := e_hasArrival hp2 a1 a2
  have ea := e_isArrival (R := mNow) hp2 (by omega) (by omega)
  rw [b1] at ea
  by_cases h0 : p1 < 0
  · refine ⟨-1, nz, nr, nb, ne, nT, nN, nG, nLU, nLL, nHU, nHL, 0, mlev, mHeard, mNum, mLU, mLD, mHU, mHD, ?_, ?_, h⟩
    · unfold f_X6_number; rw [gd_t hp1, if_pos h0]
    · unfold f_X7_number; rw [gd_t hp1, if_pos h0]
  · by_cases hc : 0 ≤ p2 ∧ p2 < az
    · rw [if_pos hc] at eh ea
      obtain ⟨r, z2, s2, b2, e2, T2, N2, G2, LU2, LL2, HU2, HL2, eg, hg⟩ := e_goesTo nz nr nb ne nT nN nG nLU nLL nHU nHL hN.1 hp1 (by omega)
      obtain ⟨q, l3, H3, N3, LU3, LD3, HU3, HD3, ei, hq⟩ := e_isNum mHeard mNum mLU mLD mHU mHD hN hp1 (by omega)
      have main : ∃ v : Int, f_X6_number p1 p2 az alo ahi asl aT nz nr nb ne nT nN nG nLU nLL nHU nHL = some (v, z2, s2, b2, e2, T2, N2, G2, LU2, LL2, HU2, HL2) ∧ f_X7_number p1 p2 mlev mNow mHeard mNum mLU mLD mHU mHD = some (v, 0, l3, H3, N3, LU3, LD3, HU3, HD3) := by
        unfold f_X6_number f_X7_number
        rw [gd_t hp1, if_neg h0, eh, Option.bind_some, gd_t zRone, if_neg (by omega), eg, Option.bind_some, gd_t hp1, if_neg h0, ea, Option.bind_some, gd_t zRone, if_neg (by omega), ei, Option.bind_some]
        dsimp only
        rcases hg with ⟨rfl, -, w, w1, w2, w3⟩ | ⟨rfl, w1⟩
        · rcases hq with ⟨rfl, v, v1, v2, v3⟩ | ⟨rfl, v1⟩
          · rw [w1] at v1
            have hv : w = v := Option.some.inj v1
            subst hv
            rw [gd_t zRone, if_neg (by omega), gd_t ⟨by omega, by omega⟩, gd_t zRone, if_neg (by omega), gd_t ⟨by omega, by omega⟩]
            refine ⟨N2 p2.toNat, rfl, ?_⟩
            rw [← pre_nth N2 az.toNat p2.toNat (by omega), ← pre_nth N3 az.toNat p2.toNat (by omega), w2, v2]
          · rw [w1] at v1; cases v1
        · rcases hq with ⟨rfl, v, v1, v2, v3⟩ | ⟨rfl, v1⟩
          · rw [w1] at v1; cases v1
          · rw [gd_t zR0, if_pos rfl, gd_t zR0, if_pos rfl]
            exact ⟨_, rfl, rfl⟩
      obtain ⟨v, m1, m2⟩ := main
      exact ⟨v, _, _, _, _, _, _, _, _, _, _, _, _, _, _, _, _, _, _, _, m1, m2, h⟩
    · rw [if_neg hc] at eh ea
      refine ⟨-1, nz, nr, nb, ne, nT, nN, nG, nLU, nLL, nHU, nHL, 0, mlev, mHeard, mNum, mLU, mLD, mHU, mHD, ?_, ?_, h⟩
      · unfold f_X6_number; rw [gd_t hp1, if_neg h0, eh, Option.bind_some, gd_t zR0, if_pos rfl]
      · unfold f_X7_number; rw [gd_t hp1, if_neg h0, ea, Option.bind_some, gd_t zR0, if_pos rfl]
theorem sp_box (az : Int) (alo : Int) (ahi : Int) (asl : Int) (aT : Nat → Int) (pn : Int) (pz : Int) (pZ : Nat → Int) (pLo : Nat → Int) (pHi : Nat → Int) (pSl : Nat → Int) (pT : Nat → Nat → Int) (jZ : Nat → Int) (jLo : Nat → Int) (jHi : Nat → Int) (jSl : Nat → Int) (jT : Nat → Nat → Int) (kK : Nat → Int) (rn : Int) (rL : Nat → Int) (nz : Int) (nr : Int) (nb : Int) (ne : Int) (nT : Nat → Int) (nN : Nat → Int) (nG : Nat → Int) (nLU : Nat → Int) (nLL : Nat → Int) (nHU : Nat → Int) (nHL : Nat → Int) (mmany : Int) (macts : Int) (mlev : Int) (mText : Nat → Int) (mNow : Nat → Int) (mWas : Nat → Int) (mIsK : Nat → Int) (mKept : Nat → Int) (mHeard : Nat → Int) (mNum : Nat → Int) (mLU : Nat → Int) (mLD : Nat → Int) (mHU : Nat → Int) (mHD : Nat → Int) (p1 : Int) (hp1 : zR p1) (p2 : Int) (hp2 : zR p2) (h : zRel az alo ahi asl aT pn pz pZ pLo pHi pSl pT jZ jLo jHi jSl jT kK rn rL mmany mText mNow mWas macts mIsK mKept) : ∃ (r : Int) (nz' : Int) (nr' : Int) (nb' : Int) (ne' : Int) (nT' : Nat → Int) (nN' : Nat → Int) (nG' : Nat → Int) (nLU' : Nat → Int) (nLL' : Nat → Int) (nHU' : Nat → Int) (nHL' : Nat → Int) (mth' : Int) (mlev' : Int) (mHeard' : Nat → Int) (mNum' : Nat → Int) (mLU' : Nat → Int) (mLD' : Nat → Int) (mHU' : Nat → Int) (mHD' : Nat → Int), f_X6_box p1 p2 az alo ahi asl aT nz nr nb ne nT nN nG nLU nLL nHU nHL = some (r, nz', nr', nb', ne', nT', nN', nG', nLU', nLL', nHU', nHL') ∧ f_X7_box p1 p2 mlev mNow mHeard mNum mLU mLD mHU mHD = some (r, mth', mlev', mHeard', mNum', mLU', mLD', mHU', mHD') ∧ zRel az alo ahi asl aT pn pz pZ pLo pHi pSl pT jZ jLo jHi jSl jT kK rn rL mmany mText mNow mWas macts mIsK mKept := by
  have h' := h
  obtain ⟨hN, -⟩ := h'
  have hN' := hN
  obtain ⟨⟨a1, a2, -⟩, b1, -⟩ := hN'
  have z3 : zR 3 := by decide
  have ei0 := e_in (a := p2) (b := 0) (c := 3) hp2 zR0 z3
  by_cases h0 : p1 < 0
  · refine ⟨-1, nz, nr, nb, ne, nT, nN, nG, nLU, nLL, nHU, nHL, 0, mlev, mHeard, mNum, mLU, mLD, mHU, mHD, ?_, ?_, h⟩
    · unfold f_X6_box; rw [gd_t hp1, if_pos h0]
    · unfold f_X7_box; rw [gd_t hp1, if_pos h0]
  · by_cases hc : 0 ≤ p2 ∧ p2 ≤ 3
    · rw [if_pos hc] at ei0
      obtain ⟨r, z2, s2, b2, e2, T2, N2, G2, LU2, LL2, HU2, HL2, eg, hg⟩ := e_goesTo nz nr nb ne nT nN nG nLU nLL nHU nHL hN.1 hp1 (by omega)
      obtain ⟨q, l3, H3, N3, LU3, LD3, HU3, HD3, ei, hq⟩ := e_isNum mHeard mNum mLU mLD mHU mHD hN hp1 (by omega)
      have main : ∃ v : Int, f_X6_box p1 p2 az alo ahi asl aT nz nr nb ne nT nN nG nLU nLL nHU nHL = some (v, z2, s2, b2, e2, T2, N2, G2, LU2, LL2, HU2, HL2) ∧ f_X7_box p1 p2 mlev mNow mHeard mNum mLU mLD mHU mHD = some (v, 0, l3, H3, N3, LU3, LD3, HU3, HD3) := by
        unfold f_X6_box f_X7_box
        rw [gd_t hp1, if_neg h0, gd_t hp2, if_neg (by omega), gd_t ⟨hp2, z3⟩, if_pos hc.2, eg, Option.bind_some, gd_t hp1, if_neg h0, gd_t hp2, ei0, Option.bind_some, gd_t zRone, if_neg (by omega), ei, Option.bind_some]
        dsimp only
        rcases hg with ⟨rfl, hz2, w, w1, w2, w3⟩ | ⟨rfl, w1⟩
        · rcases hq with ⟨rfl, v, v1, v2, v3⟩ | ⟨rfl, v1⟩
          · have v1' := v1
            rw [w1] at v1
            have hv : w = v := Option.some.inj v1
            subst hv
            obtain ⟨k0, kI, kl⟩ := tA_mem (zCt_of hN.1) w1
            obtain ⟨x, x1, x2⟩ := e_ends (b := w.2) (w := p2) kI.2.2.2.2.1 hc.1 hc.2
            have y1 := x1
            rw [← w3] at y1
            have y2 := x2
            rw [← v3] at y2
            have et : az.toNat - 1 = Int.toNat (az - 1) := by omega
            rw [et] at y1 y2
            dsimp only [bx] at y1 y2
            rw [gd_t zRone, if_neg (by omega), gd_t zRone, if_neg (by omega), zlt_t, b1, gd_t ⟨by omega, by omega⟩, gd_t ⟨by omega, by omega⟩, gd_t ⟨by omega, by omega⟩, gd_t ⟨by omega, by omega⟩, y2, Option.bind_some]
            unfold f_X2_boxPart
            rw [hz2, gd_t ⟨⟨by omega, by omega⟩, by omega, by omega⟩, if_neg (by omega), gd_t ⟨⟨by omega, by omega⟩, by omega, by omega⟩, if_pos (by omega), gd_t ⟨by omega, by omega⟩, y1, Option.bind_some, Option.bind_some]
            exact ⟨x, rfl, rfl⟩
          · rw [w1] at v1; cases v1
        · rcases hq with ⟨rfl, v, v1, v2, v3⟩ | ⟨rfl, v1⟩
          · rw [w1] at v1; cases v1
          · rw [gd_t zR0, if_pos rfl, gd_t zR0, if_pos rfl]
            exact ⟨_, rfl, rfl⟩
      obtain ⟨v, m1, m2⟩ := main
      exact ⟨v, _, _, _, _, _, _, _, _, _, _, _, _, _, _, _, _, _, _, _, m1, m2, h⟩
    · rw [if_neg hc] at ei0
      refine ⟨-1, nz, nr, nb, ne, nT, nN, nG, nLU, nLL, nHU, nHL, 0, mlev, mHeard, mNum, mLU, mLD, mHU, mHD, ?_, ?_, h⟩
      · unfold f_X6_box
        rw [gd_t hp1, if_neg h0, gd_t hp2]
        by_cases hd : p2 < 0
        · rw [if_pos hd]
        · rw [if_neg hd, gd_t ⟨hp2, z3⟩, if_neg (by omega)]
      · unfold f_X7_box
        rw [gd_t hp1, if_neg h0, gd_t hp2, ei0, Option.bind_some, gd_t zR0, if_pos rfl]
theorem e_isLow {p : Int} (hp : zR p) : f_X6_isLow p = some (if 10 ≤ p ∧ p ≤ 999 then 1 else 0) := by
  have r1 : zR 10 := by decide
  have r2 : zR 999 := by decide
  unfold f_X6_isLow
  rw [gd_t ⟨hp, r1⟩]
  by_cases h1 : p < 10
  · rw [if_pos h1, if_neg (by omega)]
  · rw [if_neg h1, gd_t ⟨hp, r2⟩]
    by_cases h2 : p ≤ 999
    · rw [if_pos h2, if_pos (by omega)]
    · rw [if_neg h2, if_neg (by omega)]
theorem e_isHigh {l p : Int} (hl : zR l) (hp : zR p) : f_X6_isHigh l p = some (if l ≤ p ∧ p ≤ 999 then 1 else 0) := by
  have r2 : zR 999 := by decide
  unfold f_X6_isHigh
  rw [gd_t ⟨hp, hl⟩]
  by_cases h1 : p < l
  · rw [if_pos h1, if_neg (by omega)]
  · rw [if_neg h1, gd_t ⟨hp, r2⟩]
    by_cases h2 : p ≤ 999
    · rw [if_pos h2, if_pos (by omega)]
    · rw [if_neg h2, if_neg (by omega)]
theorem e_isSlack {l p : Int} (hl : zR l) (hp : zR p) : f_X6_isSlack l p = some (if 0 ≤ p ∧ p ≤ 99 ∧ 4 * p < l then 1 else 0) := by
  have r2 : zR 99 := by decide
  unfold f_X6_isSlack
  rw [gd_t hp]
  by_cases h1 : p < 0
  · rw [if_pos h1, if_neg (by omega)]
  · rw [if_neg h1, gd_t ⟨hp, r2⟩]
    by_cases h2 : p ≤ 99
    · rw [if_pos h2, gd_t ⟨⟨by omega, by omega⟩, hl⟩]
      by_cases h3 : 4 * p < l
      · rw [if_pos h3, if_pos (by omega)]
      · rw [if_neg h3, if_neg (by omega)]
    · rw [if_neg h2, if_neg (by omega)]
theorem zBoth_box {R : Nat → Int} {z lo hi sl l2 h2 s2 : Int} {T : Nat → Int} (h : zBoth R 0 z lo hi sl T) (h1 : 10 ≤ l2 ∧ l2 ≤ 999) (h3 : l2 ≤ h2 ∧ h2 ≤ 999) (h4 : 0 ≤ s2 ∧ s2 ≤ 99 ∧ 4 * s2 < l2) : zBoth (zup (zup (zup R 1 l2) 2 h2) 3 s2) 0 z l2 h2 s2 T := by
  obtain ⟨⟨a1, a2, a3, a4, a5, a6, a7, a8, a9, a10⟩, b1, b2, b3, b4, b5⟩ := h
  refine ⟨⟨a1, a2, h1.1, h3.1, h3.2, h4.1, h4.2.1, h4.2.2, a9, a10⟩, b1, rfl, rfl, rfl, fun k hk => ?_⟩
  rw [zup_n (by omega), zup_n (by omega), zup_n (by omega)]
  exact b5 k hk
theorem m_boxes_bad {p1 p2 p3 macts mlev : Int} {mNow mWas mHeard mNum mLU mLD mHU mHD : Nat → Int} (hp1 : zR p1) (hp2 : zR p2) (hp3 : zR p3) (hc : ¬ ((10 ≤ p1 ∧ p1 ≤ 999) ∧ (p1 ≤ p2 ∧ p2 ≤ 999) ∧ (0 ≤ p3 ∧ p3 ≤ 99 ∧ 4 * p3 < p1))) : f_X7_boxes p1 p2 p3 macts mlev mNow mWas mHeard mNum mLU mLD mHU mHD = some (-1, 0, macts, mlev, mNow, mWas, mHeard, mNum, mLU, mLD, mHU, mHD) := by
  have r1 : zR 10 := by decide
  have r2 : zR 999 := by decide
  have r3 : zR 99 := by decide
  unfold f_X7_boxes
  rw [gd_t hp1, e_in hp1 r1 r2, Option.bind_some]
  by_cases c1 : 10 ≤ p1 ∧ p1 ≤ 999
  · rw [if_pos c1, gd_t zRone, if_neg (by omega), gd_t hp2, gd_t hp1, e_in hp2 hp1 r2, Option.bind_some]
    by_cases c2 : p1 ≤ p2 ∧ p2 ≤ 999
    · rw [if_pos c2, gd_t zRone, if_neg (by omega), gd_t hp3, e_in hp3 zR0 r3, Option.bind_some]
      by_cases c3 : 0 ≤ p3 ∧ p3 ≤ 99
      · rw [if_pos c3, gd_t zRone, if_neg (by omega), gd_t ⟨⟨by omega, by omega⟩, hp1⟩, if_neg (by omega)]
      · rw [if_neg c3, gd_t zR0, if_pos rfl]
    · rw [if_neg c2, gd_t zR0, if_pos rfl]
  · rw [if_neg c1, gd_t zR0, if_pos rfl]
theorem m_boxes_ok {p1 p2 p3 macts mlev a2 v l2 : Int} {mNow mWas mHeard mNum mLU mLD mHU mHD W2 H2 N2 LU2 LD2 HU2 HD2 : Nat → Int} (hp1 : zR p1) (hp2 : zR p2) (hp3 : zR p3) (c1 : 10 ≤ p1 ∧ p1 ≤ 999) (c2 : p1 ≤ p2 ∧ p2 ≤ 999) (c3 : 0 ≤ p3 ∧ p3 ≤ 99 ∧ 4 * p3 < p1) (e5 : f_X7_keepAct macts mNow mWas = some (a2, W2)) (es : f_X7_standing_n (zup (zup (zup mNow 1 p1) 2 p2) 3 p3) mHeard mNum mLU mLD mHU mHD = some (v, l2, H2, N2, LU2, LD2, HU2, HD2)) : f_X7_boxes p1 p2 p3 macts mlev mNow mWas mHeard mNum mLU mLD mHU mHD = some (v, 0, a2, l2, zup (zup (zup mNow 1 p1) 2 p2) 3 p3, W2, H2, N2, LU2, LD2, HU2, HD2) := by
  have r1 : zR 10 := by decide
  have r2 : zR 999 := by decide
  have r3 : zR 99 := by decide
  unfold f_X7_boxes
  rw [gd_t hp1, e_in hp1 r1 r2, Option.bind_some, if_pos c1, gd_t zRone, if_neg (by omega), gd_t hp2, gd_t hp1, e_in hp2 hp1 r2, Option.bind_some, if_pos c2, gd_t zRone, if_neg (by omega), gd_t hp3, e_in hp3 zR0 r3, Option.bind_some, if_pos ⟨c3.1, c3.2.1⟩, gd_t zRone, if_neg (by omega), gd_t ⟨⟨by omega, by omega⟩, hp1⟩, if_pos c3.2.2, e5, Option.bind_some]
  dsimp only
  rw [es, Option.bind_some]
theorem sp_boxes (az : Int) (alo : Int) (ahi : Int) (asl : Int) (aT : Nat → Int) (pn : Int) (pz : Int) (pZ : Nat → Int) (pLo : Nat → Int) (pHi : Nat → Int) (pSl : Nat → Int) (pT : Nat → Nat → Int) (jZ : Nat → Int) (jLo : Nat → Int) (jHi : Nat → Int) (jSl : Nat → Int) (jT : Nat → Nat → Int) (kK : Nat → Int) (rn : Int) (rL : Nat → Int) (nz : Int) (nr : Int) (nb : Int) (ne : Int) (nT : Nat → Int) (nN : Nat → Int) (nG : Nat → Int) (nLU : Nat → Int) (nLL : Nat → Int) (nHU : Nat → Int) (nHL : Nat → Int) (mmany : Int) (macts : Int) (mlev : Int) (mText : Nat → Int) (mNow : Nat → Int) (mWas : Nat → Int) (mIsK : Nat → Int) (mKept : Nat → Int) (mHeard : Nat → Int) (mNum : Nat → Int) (mLU : Nat → Int) (mLD : Nat → Int) (mHU : Nat → Int) (mHD : Nat → Int) (p1 : Int) (hp1 : zR p1) (p2 : Int) (hp2 : zR p2) (p3 : Int) (hp3 : zR p3) (h : zRel az alo ahi asl aT pn pz pZ pLo pHi pSl pT jZ jLo jHi jSl jT kK rn rL mmany mText mNow mWas macts mIsK mKept) : ∃ (r : Int) (alo' : Int) (ahi' : Int) (asl' : Int) (pn' : Int) (pz' : Int) (pZ' : Nat → Int) (pLo' : Nat → Int) (pHi' : Nat → Int) (pSl' : Nat → Int) (pT' : Nat → Nat → Int) (nz' : Int) (nr' : Int) (nb' : Int) (ne' : Int) (nT' : Nat → Int) (nN' : Nat → Int) (nG' : Nat → Int) (nLU' : Nat → Int) (nLL' : Nat → Int) (nHU' : Nat → Int) (nHL' : Nat → Int) (mth' : Int) (macts' : Int) (mlev' : Int) (mNow' : Nat → Int) (mWas' : Nat → Int) (mHeard' : Nat → Int) (mNum' : Nat → Int) (mLU' : Nat → Int) (mLD' : Nat → Int) (mHU' : Nat → Int) (mHD' : Nat → Int), f_X6_boxes p1 p2 p3 az alo ahi asl aT pn pz pZ pLo pHi pSl pT nz nr nb ne nT nN nG nLU nLL nHU nHL = some (r, alo', ahi', asl', pn', pz', pZ', pLo', pHi', pSl', pT', nz', nr', nb', ne', nT', nN', nG', nLU', nLL', nHU', nHL') ∧ f_X7_boxes p1 p2 p3 macts mlev mNow mWas mHeard mNum mLU mLD mHU mHD = some (r, mth', macts', mlev', mNow', mWas', mHeard', mNum', mLU', mLD', mHU', mHD') ∧ zRel az alo' ahi' asl' aT pn' pz' pZ' pLo' pHi' pSl' pT' jZ jLo jHi jSl jT kK rn rL mmany mText mNow' mWas' macts' mIsK mKept := by
  have h' := h
  obtain ⟨hN, ⟨p0, p9, z0, z10, rfl, hR⟩, hIm, hTx⟩ := h'
  have e1 := e_isLow hp1
  have e2 := e_isHigh hp1 hp2
  have e3 := e_isSlack hp1 hp3
  by_cases hc : (10 ≤ p1 ∧ p1 ≤ 999) ∧ (p1 ≤ p2 ∧ p2 ≤ 999) ∧ (0 ≤ p3 ∧ p3 ≤ 99 ∧ 4 * p3 < p1)
  · obtain ⟨c1, c2, c3⟩ := hc
    rw [if_pos c1] at e1
    rw [if_pos c2] at e2
    rw [if_pos c3] at e3
    have hb := zBoth_box hN c1 c2 c3
    obtain ⟨S, e4, hS⟩ := e_push pn macts pZ pLo pHi pSl pT az alo ahi asl aT p0 p9 z0 z10
    obtain ⟨W2, e5, v1, v2⟩ := e_keepAct macts mNow mWas z0 z10
    obtain ⟨k0, k9, k1, k10, kR⟩ := zPast_push (T := S) (W2 := W2) hN ⟨p0, p9, z0, z10, hR⟩ hS v1 v2
    obtain ⟨b2, ee, T2, N2, G2, LU, LL, HU, HL, ec⟩ := e_cstand nz nr nb ne nT nN nG nLU nLL nHU nHL hb.1
    obtain ⟨l3, H3, N3, LU3, LD3, HU3, HD3, em⟩ := e_mstand mHeard mNum mLU mLD mHU mHD hb
    have m2 := m_boxes_ok (mlev := mlev) hp1 hp2 hp3 c1 c2 c3 e5 em
    have m1 : f_X6_boxes p1 p2 p3 az alo ahi asl aT pn macts pZ pLo pHi pSl pT nz nr nb ne nT nN nG nLU nLL nHU nHL = some (((tA az.toNat aT (2 * p3) p1 p2).length : Int), p1, p2, p3, (pn + 1) % 10, min (macts + 1) 10, zup pZ pn az, zup pLo pn alo, zup pHi pn ahi, zup pSl pn asl, zup pT pn S, az, 2 * p3, b2, ee, T2, N2, G2, LU, LL, HU, HL) := by
      unfold f_X6_boxes
      rw [e1, Option.bind_some, gd_t zRone, if_neg (by omega), e2, Option.bind_some, gd_t zRone, if_neg (by omega), e3, Option.bind_some, gd_t zRone, if_neg (by omega), e4, Option.bind_some]
      dsimp only
      rw [ec, Option.bind_some]
    exact ⟨_, _, _, _, _, _, _, _, _, _, _, _, _, _, _, _, _, _, _, _, _, _, _, _, _, _, _, _, _, _, _, _, _, m1, m2, hb, ⟨k0, k9, k1, k10, rfl, kR⟩, hIm, hTx⟩
  · refine ⟨-1, alo, ahi, asl, pn, macts, pZ, pLo, pHi, pSl, pT, nz, nr, nb, ne, nT, nN, nG, nLU, nLL, nHU, nHL, 0, macts, mlev, mNow, mWas, mHeard, mNum, mLU, mLD, mHU, mHD, ?_, m_boxes_bad hp1 hp2 hp3 hc, h⟩
    unfold f_X6_boxes
    rw [e1, Option.bind_some]
    by_cases c1 : 10 ≤ p1 ∧ p1 ≤ 999
    · rw [if_pos c1, gd_t zRone, if_neg (by omega), e2, Option.bind_some]
      by_cases c2 : p1 ≤ p2 ∧ p2 ≤ 999
      · rw [if_pos c2, gd_t zRone, if_neg (by omega), e3, Option.bind_some, if_neg (by omega), gd_t zR0, if_pos rfl]
      · rw [if_neg c2, gd_t zR0, if_pos rfl]
    · rw [if_neg c1, gd_t zR0, if_pos rfl]
