/-! PURE: listen, both sides -/
theorem lis_left {mNow : Nat → Int} {az alo ahi asl τ : Int} {aT : Nat → Int} (hN : zBoth mNow 0 az alo ahi asl aT) (h0 : 0 < az) (h6 : az ≤ 6) (h1 : aT (az.toNat - 1) < τ) (h2 : τ ≤ 2999) : zCt (az.toNat + 1) (tx aT az.toNat τ) (2 * asl) alo ahi ∧ ∀ Fr H N LU LD HU HD : Nat → Int, ∃ (l2 : Int) (F2 H2 N2 LU2 LD2 HU2 HD2 : Nat → Int), f_X7_leftBy τ mNow Fr H N LU LD HU HD = some (((tA (az.toNat + 1) (tx aT az.toNat τ) (2 * asl) alo ahi).length : Int), l2, F2, H2, N2, LU2, LD2, HU2, HD2) := by
  have hN' := hN
  obtain ⟨⟨a1, a2, a3, a4, a5, a6, a7, a8, a9, a10⟩, -⟩ := hN'
  have ek : (az + 1).toNat = az.toNat + 1 := by omega
  have hlast := a9 (az.toNat - 1) (by omega)
  have hlt : ∀ k : Nat, (k : Int) < az → aT k < τ := fun k hk => by
    by_cases e : k = az.toNat - 1
    · rw [e]; exact h1
    · have := t_lt a10 (show k < az.toNat - 1 by omega) (by omega)
      omega
  have key := fun Fr H N LU LD HU HD : Nat → Int => e_mleftBy (q := az.toNat) (T2 := tx aT az.toNat τ) Fr H N LU LD HU HD hN h6 (by omega) h2 (fun k hk => by have := hlt k hk; omega) ⟨by omega, fun k hk => tx_n (by omega), tx_e, fun k hk1 hk2 => by omega⟩ (fun k hk1 hk2 => by omega) (fun _ => by omega)
  rw [ek] at key
  refine ⟨?_, fun Fr H N LU LD HU HD => (key Fr H N LU LD HU HD).2⟩
  have := zCt_of (key mNow mNow mNow mNow mNow mNow mNow).1
  rw [ek] at this
  exact this
theorem m_listen0 {mlev : Int} {mNow mFresh mHeard mNum mLU mLD mHU mHD : Nat → Int} (h0 : mNow 0 = 0) : ∃ (l2 : Int) (F2 H2 N2 LU2 LD2 HU2 HD2 : Nat → Int), f_X7_listen mlev mNow mFresh mHeard mNum mLU mLD mHU mHD = some (-9, 0, l2, F2, H2, N2, LU2, LD2, HU2, HD2) := by
  have z7 : zR 7 := by decide
  obtain ⟨l2, F2, H2, N2, LU2, LD2, HU2, HD2, e⟩ := m_lst (mm := 0) (V := mNow) (R := mNow) (fs := 3000) (mth := 0) (by decide) (by omega) (by omega) (fun i hi0 => by omega) 0 0 (-9) 0 mlev mFresh mHeard mNum mLU mLD mHU mHD rfl (by decide) zR0
  refine ⟨l2, F2, H2, N2, LU2, LD2, HU2, HD2, ?_⟩
  unfold f_X7_listen
  rw [h0, gd_t ⟨zR0, z7⟩, if_neg (by omega), gd_t zR0, if_pos rfl, zlt_t]
  exact e
theorem m_listen1 {mlev v : Int} {mNow mFresh mHeard mNum mLU mLD mHU mHD : Nat → Int} {az fs l2 : Int} {F2 H2 N2 LU2 LD2 HU2 HD2 : Nat → Int} (h0 : mNow 0 = az) (h1 : 0 < az) (h6 : az ≤ 6) (hl : mNow (Int.toNat (4 + az - 1)) = fs - 1) (e : zev (st_X7_listen mNow) (-9, 0, fs - 1, fs, 0, mlev, mFresh, mHeard, mNum, mLU, mLD, mHU, mHD) = some (v, 0, l2, F2, H2, N2, LU2, LD2, HU2, HD2)) : f_X7_listen mlev mNow mFresh mHeard mNum mLU mLD mHU mHD = some (v, 0, l2, F2, H2, N2, LU2, LD2, HU2, HD2) := by
  have z7 : zR 7 := by decide
  have za : zR az := ⟨by omega, by omega⟩
  unfold f_X7_listen
  rw [h0, gd_t ⟨za, z7⟩, if_neg (by omega), gd_t za, if_neg (by omega), gd_t ⟨by omega, by omega⟩, zlt_t, zlt_t, hl, show fs - 1 + 1 = fs by omega]
  exact e
theorem c_listen1 {az alo ahi asl v fs : Int} {aT : Nat → Int} {nz nr nb ne z1 s1 b1 e1 : Int} {nT nN nG nLU nLL nHU nHL yY T1 N1 G1 LU1 LL1 HU1 HL1 Y1 : Nat → Int} {X : Option (Int × Int × Int × Int × Int × (Nat → Int) × (Nat → Int) × (Nat → Int) × (Nat → Int) × (Nat → Int) × (Nat → Int) × (Nat → Int) × (Nat → Int))} (h1 : 0 < az) (h6 : az ≤ 6) (hf : aT (Int.toNat (az - 1)) + 1 = fs) (hf0 : 0 ≤ fs) (hf2 : fs ≤ 3000) (hv : v = min 100 (3000 - fs)) (et : f_X6_tellLeftBy fs v az alo ahi asl aT nz nr nb ne nT nN nG nLU nLL nHU nHL yY = some (z1, s1, b1, e1, T1, N1, G1, LU1, LL1, HU1, HL1, Y1)) (e : zev st_X6_listen (fs, v, -9, 0, 0, z1, s1, b1, e1, T1, N1, G1, LU1, LL1, HU1, HL1, Y1) = X) : f_X6_listen az alo ahi asl aT nz nr nb ne nT nN nG nLU nLL nHU nHL yY = X := by
  have z7 : zR 7 := by decide
  have z100 : zR 100 := by decide
  have za : zR az := ⟨by omega, by omega⟩
  have hm : zR (2999 - fs + 1) := ⟨by omega, by omega⟩
  unfold f_X6_listen
  rw [gd_t ⟨za, z7⟩, if_pos (by omega), gd_t za, if_neg (by omega), gd_t ⟨by omega, by omega⟩, zlt_t, hf, gd_t ⟨z100, hm⟩, zlt_t, show min 100 (2999 - fs + 1) = v by omega, et, Option.bind_some]
  exact e
theorem sp_listen (az : Int) (alo : Int) (ahi : Int) (asl : Int) (aT : Nat → Int) (pn : Int) (pz : Int) (pZ : Nat → Int) (pLo : Nat → Int) (pHi : Nat → Int) (pSl : Nat → Int) (pT : Nat → Nat → Int) (jZ : Nat → Int) (jLo : Nat → Int) (jHi : Nat → Int) (jSl : Nat → Int) (jT : Nat → Nat → Int) (kK : Nat → Int) (rn : Int) (rL : Nat → Int) (nz : Int) (nr : Int) (nb : Int) (ne : Int) (nT : Nat → Int) (nN : Nat → Int) (nG : Nat → Int) (nLU : Nat → Int) (nLL : Nat → Int) (nHU : Nat → Int) (nHL : Nat → Int) (yY : Nat → Int) (mmany : Int) (macts : Int) (mlev : Int) (mText : Nat → Int) (mNow : Nat → Int) (mFresh : Nat → Int) (mWas : Nat → Int) (mIsK : Nat → Int) (mKept : Nat → Int) (mHeard : Nat → Int) (mNum : Nat → Int) (mLU : Nat → Int) (mLD : Nat → Int) (mHU : Nat → Int) (mHD : Nat → Int) (h : zRel az alo ahi asl aT pn pz pZ pLo pHi pSl pT jZ jLo jHi jSl jT kK rn rL mmany mText mNow mWas macts mIsK mKept) : ∃ (r : Int) (nz' : Int) (nr' : Int) (nb' : Int) (ne' : Int) (nT' : Nat → Int) (nN' : Nat → Int) (nG' : Nat → Int) (nLU' : Nat → Int) (nLL' : Nat → Int) (nHU' : Nat → Int) (nHL' : Nat → Int) (yY' : Nat → Int) (mth' : Int) (mlev' : Int) (mFresh' : Nat → Int) (mHeard' : Nat → Int) (mNum' : Nat → Int) (mLU' : Nat → Int) (mLD' : Nat → Int) (mHU' : Nat → Int) (mHD' : Nat → Int), f_X6_listen az alo ahi asl aT nz nr nb ne nT nN nG nLU nLL nHU nHL yY = some (r, nz', nr', nb', ne', nT', nN', nG', nLU', nLL', nHU', nHL', yY') ∧ f_X7_listen mlev mNow mFresh mHeard mNum mLU mLD mHU mHD = some (r, mth', mlev', mFresh', mHeard', mNum', mLU', mLD', mHU', mHD') ∧ zRel az alo ahi asl aT pn pz pZ pLo pHi pSl pT jZ jLo jHi jSl jT kK rn rL mmany mText mNow mWas macts mIsK mKept := by
  have h' := h
  obtain ⟨hN, -⟩ := h'
  have hN' := hN
  obtain ⟨⟨a1, a2, a3, a4, a5, a6, a7, a8, a9, a10⟩, b1, b2, b3, b4, b5⟩ := hN'
  have C := zCt_of hN.1
  have z7 : zR 7 := by decide
  have za : zR az := ⟨by omega, by omega⟩
  by_cases h7 : az = 7
  · refine ⟨-3, nz, nr, nb, ne, nT, nN, nG, nLU, nLL, nHU, nHL, yY, 0, mlev, mFresh, mHeard, mNum, mLU, mLD, mHU, mHD, ?_, ?_, h⟩
    · unfold f_X6_listen; rw [gd_t ⟨za, z7⟩, if_neg (by omega)]
    · unfold f_X7_listen; rw [b1, gd_t ⟨za, z7⟩, if_pos h7]
  · by_cases h0 : az = 0
    · obtain ⟨l2, F2, H2, N2, LU2, LD2, HU2, HD2, e⟩ := m_listen0 (mlev := mlev) (mFresh := mFresh) (mHeard := mHeard) (mNum := mNum) (mLU := mLU) (mLD := mLD) (mHU := mHU) (mHD := mHD) (b1.trans h0)
      refine ⟨-9, nz, nr, nb, ne, nT, nN, nG, nLU, nLL, nHU, nHL, yY, 0, l2, F2, H2, N2, LU2, LD2, HU2, HD2, ?_, e, h⟩
      unfold f_X6_listen
      rw [gd_t ⟨za, z7⟩, if_pos (by omega), gd_t za, if_pos (by omega)]
    · have hz : ((az.toNat : Nat) : Int) = az := by omega
      have hlast := a9 (az.toNat - 1) (by omega)
      have hr := b5 (az.toNat - 1) (by omega)
      rw [show 0 + 4 + (az.toNat - 1) = Int.toNat (4 + az - 1) by omega] at hr
      obtain ⟨fs, hfs⟩ : ∃ fs, fs = aT (az.toNat - 1) + 1 := ⟨_, rfl⟩
      obtain ⟨mm, hmm⟩ : ∃ mm : Nat, (mm : Int) = min 100 (3000 - fs) := ⟨(min 100 (3000 - fs)).toNat, by omega⟩
      have hV := fun (i : Nat) (him : i < mm) => lis_left (τ := fs + i) hN (by omega) (by omega) (by omega) (by omega)
      obtain ⟨Y1, y1, g1⟩ := tell0 (fs := fs) (p2 := (mm : Int)) (z0 := az) (l0 := alo) (h0 := ahi) (sl0 := asl) (aT := aT) (nz := nz) (nr := nr) (nb := nb) (ne := ne) (nT := nT) (nN := nN) (nG := nG) (nLU := nLU) (nLL := nLL) (nHU := nHU) (nHL := nHL) 100 0 yY (by omega) (fun i hi0 => by omega)
      obtain ⟨b4, e4, T4, N4, LU4, LL4, HU4, HL4, eb, hI, -⟩ := e_begin nz nr nb ne nT nN nG nLU nLL nHU nHL hN.1
      have g2 : zev (st_X6_tellLeftBy fs (mm : Int) az alo ahi asl aT) (0, 100, 0, nz, nr, nb, ne, nT, nN, nG, nLU, nLL, nHU, nHL, Y1) = zev (st_X6_tellLeftBy fs (mm : Int) az alo ahi asl aT) (1, 0, 0, az, 2 * asl, b4, e4, T4, N4, nG, LU4, LL4, HU4, HL4, Y1) := zev_inl (by simp (disch := omega) only [st_X6_tellLeftBy, gd_t, if_neg, eb, Option.bind_some])
      have hlen := tA_len C
      obtain ⟨b5, e5, T5, N5, G5, LU5, LL5, HU5, HL5, Y5, g3, y5⟩ := tell1 (aT := aT) (fs := fs) (z0 := az) (l0 := alo) (h0 := ahi) (sl0 := asl) (mm := mm) (by omega) (by omega) (by omega) C (fun i him => (hV i him).1) (tA az.toNat aT (2 * asl) alo ahi) 0 b4 e4 T4 N4 nG LU4 LL4 HU4 HL4 Y1 hI (by omega) (fun w hw => by
        obtain ⟨p, hp⟩ := List.mem_iff_getElem?.mp hw
        exact (tA_mem C hp).2)
      rw [hz, show ((0 : Nat) : Int) = 0 by rfl] at g3
      have et : f_X6_tellLeftBy fs (mm : Int) az alo ahi asl aT nz nr nb ne nT nN nG nLU nLL nHU nHL yY = some (az, 2 * asl, b5, e5, T5, N5, G5, LU5, LL5, HU5, HL5, Y5) := by
        unfold f_X6_tellLeftBy
        rw [show ((0 : Nat) : Int) = 0 by rfl] at g1
        rw [g1, g2, g3]
      have hVb : ∀ i : Nat, i < mm → Y5 i = ((tA (az.toNat + 1) (tx aT az.toNat (fs + i)) (2 * asl) alo ahi).length : Int) ∧ zR ((tA (az.toNat + 1) (tx aT az.toNat (fs + i)) (2 * asl) alo ahi).length : Int) := fun i him => by
        have hl2 := tA_len (hV i him).1
        refine ⟨?_, by omega, by omega⟩
        rw [y5 i him, y1 i (by omega), tA_fur (by omega)]
        omega
      have g6 := c_lst (nz := az) (nr := 2 * asl) (nb := b5) (ne := e5) (nT := T5) (nN := N5) (nG := G5) (nLU := LU5) (nLL := LL5) (nHU := HU5) (nHL := HL5) (yY := Y5) (mm := mm) (V := fun i => ((tA (az.toNat + 1) (tx aT az.toNat (fs + i)) (2 * asl) alo ahi).length : Int)) (fs := fs) (by omega) (by omega) (by omega) hVb mm 0 (-9) 0 (by omega) (by decide) zR0
      rw [show ((0 : Nat) : Int) = 0 by rfl] at g6
      have m1 := c_listen1 (az := az) (alo := alo) (ahi := ahi) (asl := asl) (aT := aT) (nz := nz) (nr := nr) (nb := nb) (ne := ne) (nT := nT) (nN := nN) (nG := nG) (nLU := nLU) (nLL := nLL) (nHU := nHU) (nHL := nHL) (yY := yY) (by omega) (by omega) (show aT (Int.toNat (az - 1)) + 1 = fs by rw [show Int.toNat (az - 1) = az.toNat - 1 by omega]; exact hfs.symm) (by omega) (by omega) hmm et g6
      obtain ⟨l7, F7, H7, N7, LU7, LD7, HU7, HD7, g7⟩ := m_lst (R := mNow) (mth := 0) (mm := mm) (V := fun i => ((tA (az.toNat + 1) (tx aT az.toNat (fs + i)) (2 * asl) alo ahi).length : Int)) (fs := fs) hmm (by omega) (by omega) (fun i him => ⟨(hVb i him).2, (hV i him).2⟩) mm 0 (-9) 0 mlev mFresh mHeard mNum mLU mLD mHU mHD (by omega) (by decide) zR0
      rw [show fs + ((0 : Nat) : Int) = fs by omega] at g7
      have m2 := m_listen1 b1 (by omega) (by omega) (show mNow (Int.toNat (4 + az - 1)) = fs - 1 by rw [hr]; omega) g7
      exact ⟨_, _, _, _, _, _, _, _, _, _, _, _, _, _, _, _, _, _, _, _, _, _, m1, m2, h⟩
