/-! PURE: odds of the reference -/
theorem rL_both {R : Nat → Int} {z lo hi sl : Int} {T : Nat → Int} {σ : Nat} (h : zHear z lo hi sl T) (hr : rL R lo hi sl (kp T σ z.toNat)) : zBoth R 0 ((kp T σ z.toNat).length : Int) lo hi sl (nth (kp T σ z.toNat)) := by
  obtain ⟨h0, h1, h2, h3, h4⟩ := hr
  refine ⟨zHear_kp σ h, h0, h1, h2, h3, fun k hk => ?_⟩
  rw [Nat.zero_add]
  exact h4 k (by omega)
theorem m_fin {R Fr : Nat → Int} {z lo hi sl : Int} {T : Nat → Int} {σ : Nat} {p2 A B mth lev : Int} {H N LU LD HU HD : Nat → Int} {x : Nat} (h : zHear z lo hi sl T) (hx : x < 11) (hσ : σ < 2 ^ z.toNat) (hr : rL Fr lo hi sl (kp T (2 ^ z.toNat - 1 - σ) z.toNat)) : ∃ (l2 : Int) (H2 N2 LU2 LD2 HU2 HD2 : Nat → Int), zev (st_X7_odds (x : Int) p2 R) (1, A, B, (σ : Int), wdn (x : Int) σ z.toNat 1, -1, mth, lev, Fr, H, N, LU, LD, HU, HD) = zev (st_X7_odds (x : Int) p2 R) (0, A + cv T z.toNat (2 * sl) lo hi (x : Int) σ, B + wdn (x : Int) σ z.toNat 1, (σ : Int) + 1, 0, 0, mth, l2, Fr, H2, N2, LU2, LD2, HU2, HD2) := by
  have a1 := h.1
  have a2 := h.2.1
  have hb := rL_both h hr
  obtain ⟨l3, H3, N3, LU3, LD3, HU3, HD3, em⟩ := e_mstand_f H N LU LD HU HD hb
  rw [Int.toNat_natCast] at em
  have hC := zCt_of hb.1
  rw [Int.toNat_natCast] at hC
  have hlen := tA_len hC
  have hwb := wdn_bd z.toNat (by omega) σ hσ x hx
  have rm : zR (-1) := by decide
  have ecv : cv T z.toNat (2 * sl) lo hi (x : Int) σ = if 0 < wdn (x : Int) σ z.toNat 1 ∧ (tA (kp T (2 ^ z.toNat - 1 - σ) z.toNat).length (nth (kp T (2 ^ z.toNat - 1 - σ) z.toNat)) (2 * sl) lo hi).length = 1 then wdn (x : Int) σ z.toNat 1 else 0 := rfl
  rw [ecv]
  generalize (tA (kp T (2 ^ z.toNat - 1 - σ) z.toNat).length (nth (kp T (2 ^ z.toNat - 1 - σ) z.toNat)) (2 * sl) lo hi).length = M at em hlen
  generalize wdn (x : Int) σ z.toNat 1 = W at hwb
  have rW : zR W := ⟨by omega, by omega⟩
  have rM : zR (M : Int) := ⟨by omega, by omega⟩
  by_cases c1 : W ≤ 0
  · refine ⟨lev, H, N, LU, LD, HU, HD, ?_⟩
    rw [if_neg (by omega)]
    refine zev_inl ?_
    simp only [st_X7_odds]
    rw [gd_t rm, if_pos (by omega), zlt_t, gd_t rW, if_pos c1, zlt_t]
  · by_cases c2 : M = 1
    · refine ⟨l3, H3, N3, LU3, LD3, HU3, HD3, ?_⟩
      rw [if_pos ⟨by omega, c2⟩]
      refine zev_inl ?_
      simp only [st_X7_odds]
      rw [gd_t rm, if_pos (by omega), zlt_t, gd_t rW, if_neg c1, em, Option.bind_some]
      dsimp only
      rw [gd_t ⟨rM, zRone⟩, if_pos (by omega), zlt_t]
    · refine ⟨l3, H3, N3, LU3, LD3, HU3, HD3, ?_⟩
      rw [if_neg (fun q => c2 q.2)]
      refine zev_inl ?_
      simp only [st_X7_odds]
      rw [gd_t rm, if_pos (by omega), zlt_t, gd_t rW, if_neg c1, em, Option.bind_some]
      dsimp only
      rw [gd_t ⟨rM, zRone⟩, if_neg (by omega), zlt_t]
theorem m_odds {R : Nat → Int} {z lo hi sl p2 : Int} {T : Nat → Int} {x : Nat} (h : zBoth R 0 z lo hi sl T) (hx : x < 11) : ∀ (d σ : Nat) (A B lev : Int) (Fr H N LU LD HU HD : Nat → Int), σ + d = 2 ^ z.toNat → ∃ (l2 : Int) (F2 H2 N2 LU2 LD2 HU2 HD2 : Nat → Int), zev (st_X7_odds (x : Int) p2 R) (0, A, B, (σ : Int), 0, 0, 0, lev, Fr, H, N, LU, LD, HU, HD) = zev (st_X7_odds (x : Int) p2 R) (0, A + sumF (cv T z.toNat (2 * sl) lo hi (x : Int)) d σ, B + sumF (fun i => wdn (x : Int) i z.toNat 1) d σ, ((2 ^ z.toNat : Nat) : Int), 0, 0, 0, l2, F2, H2, N2, LU2, LD2, HU2, HD2) := by
  have h' := h
  obtain ⟨⟨a1, a2, a3, a4, a5, a6, a7, a8, a9, a10⟩, b1, b2, b3, b4, b5⟩ := h'
  have hz : ((z.toNat : Nat) : Int) = z := by omega
  have hs := shl_p z.toNat (by omega)
  rw [hz] at hs
  have hp := p2_le z.toNat (by omega)
  intro d
  induction d with
  | zero =>
    intro σ A B lev Fr H N LU LD HU HD hσ
    have e : σ = 2 ^ z.toNat := by omega
    subst e
    refine ⟨lev, Fr, H, N, LU, LD, HU, HD, ?_⟩
    show _ = zev _ (0, A + 0, B + 0, _, 0, 0, 0, lev, Fr, H, N, LU, LD, HU, HD)
    rw [Int.add_zero, Int.add_zero]
  | succ d ih =>
    intro σ A B lev Fr H N LU LD HU HD hσ
    obtain ⟨R1, e1, g1⟩ := e_copyAll R Fr
    have r1 : zR (σ : Int) := ⟨by omega, by omega⟩
    have r2 : zR ((2 ^ z.toNat : Nat) : Int) := ⟨by omega, by omega⟩
    have s1 : zev (st_X7_odds (x : Int) p2 R) (0, A, B, (σ : Int), 0, 0, 0, lev, Fr, H, N, LU, LD, HU, HD) = zev (st_X7_odds (x : Int) p2 R) (1, A, B, (σ : Int), 1, z - 1, 0, lev, R1, H, N, LU, LD, HU, HD) := by
      refine zev_inl ?_
      simp only [st_X7_odds]
      rw [b1, hs, gd_t ⟨r1, r2⟩, if_pos (by omega), e1, Option.bind_some, zlt_t]
    have hpl := pre_len T z.toNat
    have hrl : rL R1 lo hi sl (pre T z.toNat ++ ku T (2 ^ z.toNat - 1 - σ) 0 z.toNat) := by
      have e : pre T z.toNat ++ ku T (2 ^ z.toNat - 1 - σ) 0 z.toNat = pre T z.toNat := List.append_nil _
      rw [e]
      refine ⟨by rw [g1 0 (by omega), hpl, hz]; exact b1, (g1 1 (by omega)).trans b2, (g1 2 (by omega)).trans b3, (g1 3 (by omega)).trans b4, fun i hil => ?_⟩
      rw [hpl] at hil
      rw [g1 (4 + i) (by omega), pre_nth T z.toNat i hil]
      have := b5 i (by omega)
      rw [Nat.zero_add] at this
      exact this
    obtain ⟨F2, f1, f2⟩ := m_in (n := z.toNat) (σ := σ) (T := T) (R := R) (p2 := p2) (x := (x : Int)) (x3 := A) (x4 := B) (mth := 0) (lev := lev) (H := H) (N := N) (LU := LU) (LD := LD) (HU := HU) (HD := HD) (by omega) (by omega) z.toNat 0 1 R1 (by omega) hrl
    rw [hz] at f2
    obtain ⟨l3, H3, N3, LU3, LD3, HU3, HD3, f3⟩ := m_fin (R := R) (p2 := p2) (A := A) (B := B) (mth := 0) (lev := lev) (H := H) (N := N) (LU := LU) (LD := LD) (HU := HU) (HD := HD) h.1 hx (show σ < 2 ^ z.toNat by omega) f1
    obtain ⟨l4, F4, H4, N4, LU4, LD4, HU4, HD4, i⟩ := ih (σ + 1) (A + cv T z.toNat (2 * sl) lo hi (x : Int) σ) (B + wdn (x : Int) σ z.toNat 1) l3 F2 H3 N3 LU3 LD3 HU3 HD3 (by omega)
    refine ⟨l4, F4, H4, N4, LU4, LD4, HU4, HD4, ?_⟩
    rw [show ((σ + 1 : Nat) : Int) = (σ : Int) + 1 by omega] at i
    rw [s1, f2, f3, i]
    simp only [sumF]
    rw [Int.add_assoc, Int.add_assoc]
theorem sp_odds (az : Int) (alo : Int) (ahi : Int) (asl : Int) (aT : Nat → Int) (bz : Int) (blo : Int) (bhi : Int) (bsl : Int) (bT : Nat → Int) (pn : Int) (pz : Int) (pZ : Nat → Int) (pLo : Nat → Int) (pHi : Nat → Int) (pSl : Nat → Int) (pT : Nat → Nat → Int) (jZ : Nat → Int) (jLo : Nat → Int) (jHi : Nat → Int) (jSl : Nat → Int) (jT : Nat → Nat → Int) (kK : Nat → Int) (rn : Int) (rL : Nat → Int) (nz : Int) (nr : Int) (nb : Int) (ne : Int) (nT : Nat → Int) (nN : Nat → Int) (nG : Nat → Int) (nLU : Nat → Int) (nLL : Nat → Int) (nHU : Nat → Int) (nHL : Nat → Int) (mmany : Int) (macts : Int) (mlev : Int) (mText : Nat → Int) (mNow : Nat → Int) (mFresh : Nat → Int) (mWas : Nat → Int) (mIsK : Nat → Int) (mKept : Nat → Int) (mHeard : Nat → Int) (mNum : Nat → Int) (mLU : Nat → Int) (mLD : Nat → Int) (mHU : Nat → Int) (mHD : Nat → Int) (p1 : Int) (hp1 : zR p1) (p2 : Int) (hp2 : zR p2) (h : zRel az alo ahi asl aT pn pz pZ pLo pHi pSl pT jZ jLo jHi jSl jT kK rn rL mmany mText mNow mWas macts mIsK mKept) : ∃ (r : Int) (bz' : Int) (blo' : Int) (bhi' : Int) (bsl' : Int) (bT' : Nat → Int) (nz' : Int) (nr' : Int) (nb' : Int) (ne' : Int) (nT' : Nat → Int) (nN' : Nat → Int) (nG' : Nat → Int) (nLU' : Nat → Int) (nLL' : Nat → Int) (nHU' : Nat → Int) (nHL' : Nat → Int) (mth' : Int) (mlev' : Int) (mFresh' : Nat → Int) (mHeard' : Nat → Int) (mNum' : Nat → Int) (mLU' : Nat → Int) (mLD' : Nat → Int) (mHU' : Nat → Int) (mHD' : Nat → Int), f_X6_odds p1 p2 az alo ahi asl aT bz blo bhi bsl bT nz nr nb ne nT nN nG nLU nLL nHU nHL = some (r, bz', blo', bhi', bsl', bT', nz', nr', nb', ne', nT', nN', nG', nLU', nLL', nHU', nHL') ∧ f_X7_odds p1 p2 mlev mNow mFresh mHeard mNum mLU mLD mHU mHD = some (r, mth', mlev', mFresh', mHeard', mNum', mLU', mLD', mHU', mHD') ∧ zRel az alo ahi asl aT pn pz pZ pLo pHi pSl pT jZ jLo jHi jSl jT kK rn rL mmany mText mNow mWas macts mIsK mKept := by
  have h' := h
  obtain ⟨hN, -⟩ := h'
  have hN' := hN
  obtain ⟨⟨a1, a2, -⟩, b1, -⟩ := hN'
  have z10 : zR 10 := by decide
  have f1 := e_in (a := p1) (b := 0) (c := 10) hp1 zR0 z10
  have f2 := e_in (a := p2) (b := 0) (c := 1) hp2 zR0 zRone
  by_cases hc : (0 ≤ p1 ∧ p1 ≤ 10) ∧ (0 ≤ p2 ∧ p2 ≤ 1)
  · obtain ⟨c1, c2⟩ := hc
    rw [if_pos c1] at f1
    rw [if_pos c2] at f2
    obtain ⟨x, rfl⟩ : ∃ x : Nat, p1 = (x : Int) := ⟨p1.toNat, by omega⟩
    have hx : x < 11 := by omega
    have hz : ((az.toNat : Nat) : Int) = az := by omega
    have hs := shl_p az.toNat (by omega)
    rw [hz] at hs
    have hp := p2_le az.toNat (by omega)
    have hp10 := p10_le az.toNat (by omega)
    have hws := w_sum az.toNat (by omega) x hx
    obtain ⟨z2, lo2, hi2, sl2, bT2, z3, s3, b3, e3, T3, N3, G3, LU3, LL3, HU3, HL3, g1⟩ := c_odds (p2 := p2) hN.1 hx (2 ^ az.toNat) 0 0 bz blo bhi bsl bT nz nr nb ne nT nN nG nLU nLL nHU nHL (by omega)
    obtain ⟨l4, F4, H4, N4, LU4, LD4, HU4, HD4, g2⟩ := m_odds (p2 := p2) hN hx (2 ^ az.toNat) 0 0 0 mlev mFresh mHeard mNum mLU mLD mHU mHD (by omega)
    have hrev := sumF_rev (cv aT az.toNat (2 * asl) alo ahi (x : Int)) (2 ^ az.toNat) (2 ^ az.toNat) (Nat.le_refl _)
    rw [Nat.sub_self] at hrev
    have hle := sumF_le (f := cv aT az.toNat (2 * asl) alo ahi (x : Int)) (g := fun i => wdn (x : Int) i az.toNat 1) (2 ^ az.toNat) 0 (fun i hi0 => by
      have hwb := wdn_bd az.toNat (by omega) i (by omega) x hx
      unfold cv
      split
      · exact ⟨hwb.1, Int.le_refl _⟩
      · exact ⟨Int.le_refl _, hwb.1⟩)
    rw [hws] at hle g2
    rw [hrev] at g1
    generalize sumF (cv aT az.toNat (2 * asl) alo ahi (x : Int)) (2 ^ az.toNat) 0 = U at hle g1 g2
    rw [Int.zero_add] at g1 g2
    rw [Int.zero_add] at g2
    have e10 := e_power (b := 10) (e := az) a1 a2
    have hnn : (0 : Int) ≤ ((2 ^ az.toNat : Nat) : Int) := Int.natCast_nonneg _
    have r2 : zR ((2 ^ az.toNat : Nat) : Int) := ⟨by omega, by omega⟩
    have ep := e_part (u := U) (l := 10 ^ az.toNat) (w := p2) (by omega) (by omega) hp10.1 (by omega) hp2
    obtain ⟨el1, el2⟩ := e_least (u := U) (l := 10 ^ az.toNat) (by omega) (by omega) hp10.1 (by omega)
    have m1 : f_X6_odds (x : Int) p2 az alo ahi asl aT bz blo bhi bsl bT nz nr nb ne nT nN nG nLU nLL nHU nHL = some (fpt U (10 ^ az.toNat) p2, z2, lo2, hi2, sl2, bT2, z3, s3, b3, e3, T3, N3, G3, LU3, LL3, HU3, HL3) := by
      unfold f_X6_odds
      rw [gd_t hp1, if_neg (by omega), gd_t ⟨hp1, z10⟩, if_pos c1.2, gd_t hp2, if_neg (by omega), gd_t ⟨hp2, zRone⟩, if_pos c2.2]
      rw [show ((0 : Nat) : Int) = 0 by rfl] at g1
      rw [g1]
      refine zev_inr ?_
      unfold st_X6_odds
      dsimp only
      rw [hs, gd_t ⟨r2, r2⟩, if_neg (by omega), e10, Option.bind_some, ep, Option.bind_some]
    have m2 : f_X7_odds (x : Int) p2 mlev mNow mFresh mHeard mNum mLU mLD mHU mHD = some (fpt U (10 ^ az.toNat) p2, 0, l4, F4, H4, N4, LU4, LD4, HU4, HD4) := by
      unfold f_X7_odds
      rw [gd_t hp1, f1, Option.bind_some, gd_t zRone, if_neg (by omega), gd_t hp2, f2, Option.bind_some, gd_t zRone, if_neg (by omega)]
      rw [show ((0 : Nat) : Int) = 0 by rfl] at g2
      rw [g2]
      refine zev_inr ?_
      simp only [st_X7_odds]
      rw [b1, hs, gd_t ⟨r2, r2⟩, if_neg (by omega), gd_t hp2]
      by_cases h0 : p2 = 0
      · rw [if_pos h0, el1, Option.bind_some, h0]
      · rw [if_neg h0, el2, Option.bind_some, show p2 = 1 by omega]
    exact ⟨_, _, _, _, _, _, _, _, _, _, _, _, _, _, _, _, _, _, _, _, _, _, _, _, _, _, m1, m2, h⟩
  · refine ⟨-1, bz, blo, bhi, bsl, bT, nz, nr, nb, ne, nT, nN, nG, nLU, nLL, nHU, nHL, 0, mlev, mFresh, mHeard, mNum, mLU, mLD, mHU, mHD, ?_, ?_, h⟩
    · unfold f_X6_odds
      rw [gd_t hp1]
      by_cases c1 : p1 < 0
      · rw [if_pos c1]
      · rw [if_neg c1, gd_t ⟨hp1, z10⟩]
        by_cases c3 : p1 ≤ 10
        · rw [if_pos c3, gd_t hp2]
          by_cases c4 : p2 < 0
          · rw [if_pos c4]
          · rw [if_neg c4, gd_t ⟨hp2, zRone⟩, if_neg (by omega)]
        · rw [if_neg c3]
    · unfold f_X7_odds
      rw [gd_t hp1, f1, Option.bind_some]
      by_cases c1 : 0 ≤ p1 ∧ p1 ≤ 10
      · rw [if_pos c1, gd_t zRone, if_neg (by omega), gd_t hp2, f2, Option.bind_some, if_neg (by omega), gd_t zR0, if_pos rfl]
      · rw [if_neg c1, gd_t zR0, if_pos rfl]
