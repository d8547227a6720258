/-! PURE: certain of the reference, count -/
theorem m_cert1 {k : Nat} {R : Nat → Int} (hR : R 0 = (k : Int)) (hk7 : k ≤ 7) {f w : List Int} {H N LU LD HU HD F : Nat → Int} {x2 lev : Int} (hx : x2 ≠ 0) (hx2 : zR x2) (hN : ∀ i : Nat, i < k → N i = nth w i ∧ zR (nth w i)) (hF : ∀ i : Nat, i < k → F i = nth f i ∧ zR (nth f i)) : ∀ (d a : Nat) (m : Int), zJ m → a + d = k → zev (st_X7_certain R) (1, m, x2, (a : Int), lev, H, N, LU, LD, HU, HD, F) = zev (st_X7_certain R) (0, crow f w d a m, x2 + 1, 0, lev, H, N, LU, LD, HU, HD, F) := by
  intro d
  induction d with
  | zero =>
    intro a m _ h
    exact zev_inl (by simp (disch := omega) only [st_X7_certain, gd_t, if_neg]; rfl)
  | succ d ih =>
    intro a m hm h
    have i := ih (a + 1)
    rw [show ((a + 1 : Nat) : Int) = (a : Int) + 1 by omega] at i
    obtain ⟨n1, n2⟩ := hN a (by omega)
    obtain ⟨f1, f2⟩ := hF a (by omega)
    obtain ⟨n3, n4⟩ := n2
    obtain ⟨f3, f4⟩ := f2
    by_cases e : nth w a = nth f a
    · have : crow f w (d + 1) a m = crow f w d (a + 1) m := by
        show crow f w d (a + 1) _ = _
        rw [if_pos e]
      rw [this, ← i m hm (by omega)]
      exact zev_inl (by simp (disch := omega) only [st_X7_certain, gd_t, if_pos, if_neg, Int.toNat_natCast, n1, f1, zlt_t, zAnd_self hm])
    · have : crow f w (d + 1) a m = crow f w d (a + 1) (clr m a) := by
        show crow f w d (a + 1) _ = _
        rw [if_neg e]
      rw [this, ← i (clr m a) (zJ_clr m a) (by omega)]
      exact zev_inl (by simp (disch := omega) only [st_X7_certain, gd_t, if_pos, if_neg, Int.toNat_natCast, n1, f1, zlt_t]; rfl)
theorem m_cert0 {k : Nat} {R : Nat → Int} (hR : R 0 = (k : Int)) (hk7 : k ≤ 7) {w : List Int} {H N LU LD HU HD : Nat → Int} {lev : Int} (hN : ∀ i : Nat, i < k → N i = nth w i ∧ zR (nth w i)) : ∀ (d a : Nat) (F : Nat → Int), a + d = k → (∀ i : Nat, i < a → F i = nth w i) → ∃ F2 : Nat → Int, (∀ i : Nat, i < k → F2 i = nth w i) ∧ zev (st_X7_certain R) (1, msk a, 0, (a : Int), lev, H, N, LU, LD, HU, HD, F) = zev (st_X7_certain R) (0, msk k, 1, 0, lev, H, N, LU, LD, HU, HD, F2) := by
  intro d
  induction d with
  | zero =>
    intro a F h hf
    have : a = k := by omega
    subst this
    exact ⟨F, hf, zev_inl (by simp (disch := omega) only [st_X7_certain, gd_t, if_neg]; rfl)⟩
  | succ d ih =>
    intro a F h hf
    obtain ⟨n1, n2⟩ := hN a (by omega)
    obtain ⟨n3, n4⟩ := n2
    obtain ⟨F2, g1, g2⟩ := ih (a + 1) (zup F (a : Int) (N a)) (by omega) (fun i hia => by
      by_cases e : i = a
      · rw [zup_s (by omega), e]; exact n1
      · rw [zup_n (by omega)]; exact hf i (by omega))
    refine ⟨F2, g1, ?_⟩
    rw [← g2, show ((a + 1 : Nat) : Int) = (a : Int) + 1 by omega]
    have e1 : zup F (a : Int) (N a) a = nth w a := by rw [zup_s (by omega)]; exact n1
    have e2 := msk_or a (by omega)
    have e3 := msk_and (a + 1) (by omega)
    rw [n1] at e1
    exact zev_inl (by simp (disch := omega) only [st_X7_certain, gd_t, if_pos, if_true, Int.toNat_natCast, n1, e1, e2, e3, zlt_t])
theorem m_cert {k : Nat} {t R : Nat → Int} {s lo hi : Int} {f : List Int} {F : Nat → Int} (C : zCt k t s lo hi) (hR : R 0 = (k : Int)) (hF : ∀ i : Nat, i < k → F i = nth f i ∧ zR (nth f i)) : ∀ (L : List (List Int × zB)) (j : Nat) (m lev : Int) (H N LU LD HU HD : Nat → Int), mIt k t s lo hi lev H N LU LD HU HD L → 0 < j → j + L.length ≤ 3000 → zJ m → (∀ w ∈ L, ∀ i : Nat, i < k → zR (nth w.1 i)) → ∃ (l2 : Int) (H2 N2 LU2 LD2 HU2 HD2 : Nat → Int), zev (st_X7_certain R) (0, m, (j : Int), 0, lev, H, N, LU, LD, HU, HD, F) = some (call f k L m, l2, H2, N2, LU2, LD2, HU2, HD2, F) := by
  intro L
  induction L with
  | nil =>
    intro j m lev H N LU LD HU HD hI _ hj _ _
    obtain ⟨⟨r0, l1, S1, N1, A1, B1, C1, D1⟩, en, hn⟩ := e_goesOn C hI
    rcases hn with ⟨hr, -, -⟩ | ⟨hr, z, rest, hL, -⟩
    · have hr : r0 = 0 := hr
      subst hr
      exact ⟨l1, S1, N1, A1, B1, C1, D1, zev_inr (by simp (disch := omega) only [st_X7_certain, gd_t, if_pos, if_true, en, Option.bind_some]; rfl)⟩
    · cases hL
  | cons w L ih =>
    intro j m lev H N LU LD HU HD hI hj0 hj hm hw
    rw [List.length_cons] at hj
    obtain ⟨⟨r0, l1, S1, N1, A1, B1, C1, D1⟩, en, hn⟩ := e_goesOn C hI
    rcases hn with ⟨hr, hL, -⟩ | ⟨hr, z, rest, hL, p1, p2, hI2⟩
    · cases hL
    · have hr : r0 = 1 := hr
      subst hr
      have hz : w = z := (List.cons.inj hL).1
      have hrest : L = rest := (List.cons.inj hL).2
      subst hz
      subst hrest
      have p1 : pre N1 k = w.1 := p1
      have s1 : zev (st_X7_certain R) (0, m, (j : Int), 0, lev, H, N, LU, LD, HU, HD, F) = zev (st_X7_certain R) (1, m, (j : Int), 0, l1, S1, N1, A1, B1, C1, D1, F) := zev_inl (by simp (disch := omega) only [st_X7_certain, gd_t, if_neg, en, Option.bind_some])
      have s2 := m_cert1 (k := k) (R := R) hR C.1 (f := f) (w := w.1) (H := S1) (N := N1) (LU := A1) (LD := B1) (HU := C1) (HD := D1) (F := F) (x2 := (j : Int)) (lev := l1) (by omega) ⟨by omega, by omega⟩ (fun i hik => ⟨by rw [← p1, pre_nth N1 k i hik], hw w List.mem_cons_self i hik⟩) hF k 0 m hm (by omega)
      rw [show ((0 : Nat) : Int) = 0 by rfl] at s2
      have i := ih (j + 1) (crow f w.1 k 0 m) l1 S1 N1 A1 B1 C1 D1 hI2 (by omega) (by omega) (zJ_crow f w.1 k 0 m hm) (fun v hv => hw v (List.mem_cons_of_mem _ hv))
      rw [show ((j + 1 : Nat) : Int) = (j : Int) + 1 by omega, ← s2, ← s1] at i
      exact i
theorem e_mcertain (H N LU LD HU HD F : Nat → Int) {R : Nat → Int} {z lo hi sl : Int} {T : Nat → Int} (h : zBoth R 0 z lo hi sl T) : ∃ (l2 : Int) (H2 N2 LU2 LD2 HU2 HD2 F2 : Nat → Int), f_X7_certain R H N LU LD HU HD F = some (cert z.toNat (tA z.toNat T (2 * sl) lo hi), l2, H2, N2, LU2, LD2, HU2, HD2, F2) := by
  have C := zCt_of h.1
  have hz : ((z.toNat : Nat) : Int) = z := by have := h.1.1; omega
  have hR : R 0 = ((z.toNat : Nat) : Int) := by rw [hz]; exact h.2.1
  have hz7 : z.toNat ≤ 7 := C.1
  obtain ⟨H1, e, hI⟩ := e_mbegin H N LU LD HU HD h
  have hlen := tA_len C
  have hbd := tA_zR C
  unfold f_X7_certain
  rw [e, Option.bind_some]
  dsimp only
  obtain ⟨⟨r0, l1, S1, N1, A1, B1, C1, D1⟩, en, hn⟩ := e_goesOn C hI
  rcases hn with ⟨hr, hL, -⟩ | ⟨hr, w, rest, hL, p1, p2, hI2⟩
  · have hr : r0 = 0 := hr
    subst hr
    rw [hL]
    exact ⟨l1, S1, N1, A1, B1, C1, D1, F, zev_inr (by simp (disch := omega) only [st_X7_certain, gd_t, if_pos, if_true, en, Option.bind_some]; rfl)⟩
  · have hr : r0 = 1 := hr
    subst hr
    have p1 : pre N1 z.toNat = w.1 := p1
    rw [hL] at hbd hlen
    rw [List.length_cons] at hlen
    rw [hL]
    have hwb : ∀ i : Nat, i < z.toNat → zR (nth w.1 i) := fun i hik => by
      have := hbd w List.mem_cons_self i hik
      exact ⟨by omega, by omega⟩
    have s1 : zev (st_X7_certain R) (0, 0, 0, 0, 0, H1, zup N 0 0, zup LU 0 lo, zup LD 0 1, zup HU 0 hi, zup HD 0 1, F) = zev (st_X7_certain R) (1, 0, 0, 0, l1, S1, N1, A1, B1, C1, D1, F) := zev_inl (by simp (disch := omega) only [st_X7_certain, gd_t, if_neg, en, Option.bind_some])
    obtain ⟨F2, g1, g2⟩ := m_cert0 (k := z.toNat) (R := R) hR hz7 (w := w.1) (H := S1) (N := N1) (LU := A1) (LD := B1) (HU := C1) (HD := D1) (lev := l1) (fun i hik => ⟨by rw [← p1, pre_nth N1 _ _ hik], hwb i hik⟩) z.toNat 0 F (by omega) (fun i hi0 => by omega)
    rw [show ((0 : Nat) : Int) = 0 by rfl, show msk 0 = 0 by decide] at g2
    obtain ⟨l3, H3, N3, LU3, LD3, HU3, HD3, g3⟩ := m_cert (R := R) (F := F2) (f := w.1) C hR (fun i hik => ⟨g1 i hik, hwb i hik⟩) rest 1 (msk z.toNat) l1 S1 N1 A1 B1 C1 D1 hI2 (by omega) (by omega) (zJ_msk _ (by omega)) (fun v hv i hik => by
      have := hbd v (List.mem_cons_of_mem _ hv) i hik
      exact ⟨by omega, by omega⟩)
    rw [show ((1 : Nat) : Int) = 1 by rfl] at g3
    rw [s1, g2, g3]
    exact ⟨_, _, _, _, _, _, _, _, rfl⟩
theorem sp_count (az : Int) (alo : Int) (ahi : Int) (asl : Int) (aT : Nat → Int) (pn : Int) (pz : Int) (pZ : Nat → Int) (pLo : Nat → Int) (pHi : Nat → Int) (pSl : Nat → Int) (pT : Nat → Nat → Int) (jZ : Nat → Int) (jLo : Nat → Int) (jHi : Nat → Int) (jSl : Nat → Int) (jT : Nat → Nat → Int) (kK : Nat → Int) (rn : Int) (rL : Nat → Int) (nz : Int) (nr : Int) (nb : Int) (ne : Int) (nT : Nat → Int) (nN : Nat → Int) (nG : Nat → Int) (nLU : Nat → Int) (nLL : Nat → Int) (nHU : Nat → Int) (nHL : Nat → Int) (fF : Nat → Int) (mmany : Int) (macts : Int) (mlev : Int) (mText : Nat → Int) (mNow : Nat → Int) (mWas : Nat → Int) (mIsK : Nat → Int) (mKept : Nat → Int) (mHeard : Nat → Int) (mNum : Nat → Int) (mLU : Nat → Int) (mLD : Nat → Int) (mHU : Nat → Int) (mHD : Nat → Int) (mFirst : Nat → Int) (p1 : Int) (hp1 : zR p1) (h : zRel az alo ahi asl aT pn pz pZ pLo pHi pSl pT jZ jLo jHi jSl jT kK rn rL mmany mText mNow mWas macts mIsK mKept) : ∃ (r : Int) (nz' : Int) (nr' : Int) (nb' : Int) (ne' : Int) (nT' : Nat → Int) (nN' : Nat → Int) (nG' : Nat → Int) (nLU' : Nat → Int) (nLL' : Nat → Int) (nHU' : Nat → Int) (nHL' : Nat → Int) (fF' : Nat → Int) (mth' : Int) (mlev' : Int) (mHeard' : Nat → Int) (mNum' : Nat → Int) (mLU' : Nat → Int) (mLD' : Nat → Int) (mHU' : Nat → Int) (mHD' : Nat → Int) (mFirst' : Nat → Int), f_X6_count p1 az alo ahi asl aT pz rn nz nr nb ne nT nN nG nLU nLL nHU nHL fF = some (r, nz', nr', nb', ne', nT', nN', nG', nLU', nLL', nHU', nHL', fF') ∧ f_X7_count p1 mmany macts mlev mNow mHeard mNum mLU mLD mHU mHD mFirst = some (r, mth', mlev', mHeard', mNum', mLU', mLD', mHU', mHD', mFirst') ∧ zRel az alo ahi asl aT pn pz pZ pLo pHi pSl pT jZ jLo jHi jSl jT kK rn rL mmany mText mNow mWas macts mIsK mKept := by
  have h' := h
  obtain ⟨hN, ⟨-, -, -, -, q1, -⟩, -, ⟨-, -, q2, -⟩⟩ := h'
  have hN' := hN
  obtain ⟨-, b1, b2, b3, b4, -⟩ := hN'
  rw [Nat.zero_add] at b2 b3 b4
  by_cases h0 : p1 = 0
  · subst h0
    refine ⟨az, nz, nr, nb, ne, nT, nN, nG, nLU, nLL, nHU, nHL, fF, 0, mlev, mHeard, mNum, mLU, mLD, mHU, mHD, mFirst, ?_, ?_, h⟩
    · unfold f_X6_count; rw [gd_t hp1, if_pos rfl]
    · unfold f_X7_count; rw [gd_t hp1, if_pos rfl, gd_t ⟨by omega, by omega⟩, show Int.toNat 0 = 0 by rfl, b1]
  by_cases h1 : p1 = 1
  · subst h1
    refine ⟨alo, nz, nr, nb, ne, nT, nN, nG, nLU, nLL, nHU, nHL, fF, 0, mlev, mHeard, mNum, mLU, mLD, mHU, mHD, mFirst, ?_, ?_, h⟩
    · unfold f_X6_count; rw [gd_t hp1, if_neg h0, if_pos rfl]
    · unfold f_X7_count; rw [gd_t hp1, if_neg h0, if_pos rfl, gd_t ⟨by omega, by omega⟩, show Int.toNat 1 = 1 by rfl, b2]
  by_cases h2 : p1 = 2
  · subst h2
    refine ⟨ahi, nz, nr, nb, ne, nT, nN, nG, nLU, nLL, nHU, nHL, fF, 0, mlev, mHeard, mNum, mLU, mLD, mHU, mHD, mFirst, ?_, ?_, h⟩
    · unfold f_X6_count; rw [gd_t hp1, if_neg h0, if_neg h1, if_pos rfl]
    · unfold f_X7_count; rw [gd_t hp1, if_neg h0, if_neg h1, if_pos rfl, gd_t ⟨by omega, by omega⟩, show Int.toNat 2 = 2 by rfl, b3]
  by_cases h3 : p1 = 3
  · subst h3
    refine ⟨asl, nz, nr, nb, ne, nT, nN, nG, nLU, nLL, nHU, nHL, fF, 0, mlev, mHeard, mNum, mLU, mLD, mHU, mHD, mFirst, ?_, ?_, h⟩
    · unfold f_X6_count; rw [gd_t hp1, if_neg h0, if_neg h1, if_neg h2, if_pos rfl]
    · unfold f_X7_count; rw [gd_t hp1, if_neg h0, if_neg h1, if_neg h2, if_pos rfl, gd_t ⟨by omega, by omega⟩, show Int.toNat 3 = 3 by rfl, b4]
  by_cases h4 : p1 = 4
  · subst h4
    obtain ⟨c2, ee, T2, N2, G2, LU, LL, HU, HL, ec⟩ := e_cstand nz nr nb ne nT nN nG nLU nLL nHU nHL hN.1
    obtain ⟨l3, H3, N3, LU3, LD3, HU3, HD3, em⟩ := e_mstand mHeard mNum mLU mLD mHU mHD hN
    have m1 : f_X6_count 4 az alo ahi asl aT pz rn nz nr nb ne nT nN nG nLU nLL nHU nHL fF = some (((tA az.toNat aT (2 * asl) alo ahi).length : Int), az, 2 * asl, c2, ee, T2, N2, G2, LU, LL, HU, HL, fF) := by
      unfold f_X6_count; rw [gd_t hp1, if_neg h0, if_neg h1, if_neg h2, if_neg h3, if_pos rfl, ec, Option.bind_some]
    have m2 : f_X7_count 4 mmany macts mlev mNow mHeard mNum mLU mLD mHU mHD mFirst = some (((tA az.toNat aT (2 * asl) alo ahi).length : Int), 0, l3, H3, N3, LU3, LD3, HU3, HD3, mFirst) := by
      unfold f_X7_count; rw [gd_t hp1, if_neg h0, if_neg h1, if_neg h2, if_neg h3, if_pos rfl, em, Option.bind_some]
    exact ⟨_, _, _, _, _, _, _, _, _, _, _, _, _, _, _, _, _, _, _, _, _, _, m1, m2, h⟩
  by_cases h5 : p1 = 5
  · subst h5
    obtain ⟨z2, s2, c2, ee, T2, N2, G2, LU, LL, HU, HL, F2, ec⟩ := e_certain nz nr nb ne nT nN nG nLU nLL nHU nHL fF hN.1
    obtain ⟨l3, H3, N3, LU3, LD3, HU3, HD3, F3, em⟩ := e_mcertain mHeard mNum mLU mLD mHU mHD mFirst hN
    have m1 : f_X6_count 5 az alo ahi asl aT pz rn nz nr nb ne nT nN nG nLU nLL nHU nHL fF = some (cert az.toNat (tA az.toNat aT (2 * asl) alo ahi), z2, s2, c2, ee, T2, N2, G2, LU, LL, HU, HL, F2) := by
      unfold f_X6_count; rw [gd_t hp1, if_neg h0, if_neg h1, if_neg h2, if_neg h3, if_neg h4, if_pos rfl, ec, Option.bind_some]
    have m2 : f_X7_count 5 mmany macts mlev mNow mHeard mNum mLU mLD mHU mHD mFirst = some (cert az.toNat (tA az.toNat aT (2 * asl) alo ahi), 0, l3, H3, N3, LU3, LD3, HU3, HD3, F3) := by
      unfold f_X7_count; rw [gd_t hp1, if_neg h0, if_neg h1, if_neg h2, if_neg h3, if_neg h4, if_pos rfl, em, Option.bind_some]
    exact ⟨_, _, _, _, _, _, _, _, _, _, _, _, _, _, _, _, _, _, _, _, _, _, m1, m2, h⟩
  by_cases h6 : p1 = 6
  · subst h6
    refine ⟨rn, nz, nr, nb, ne, nT, nN, nG, nLU, nLL, nHU, nHL, fF, 0, mlev, mHeard, mNum, mLU, mLD, mHU, mHD, mFirst, ?_, ?_, h⟩
    · unfold f_X6_count; rw [gd_t hp1, if_neg h0, if_neg h1, if_neg h2, if_neg h3, if_neg h4, if_neg h5, if_pos rfl]
    · unfold f_X7_count; rw [gd_t hp1, if_neg h0, if_neg h1, if_neg h2, if_neg h3, if_neg h4, if_neg h5, if_pos rfl, q2]
  by_cases h7 : p1 = 7
  · subst h7
    refine ⟨pz, nz, nr, nb, ne, nT, nN, nG, nLU, nLL, nHU, nHL, fF, 0, mlev, mHeard, mNum, mLU, mLD, mHU, mHD, mFirst, ?_, ?_, h⟩
    · unfold f_X6_count; rw [gd_t hp1, if_neg h0, if_neg h1, if_neg h2, if_neg h3, if_neg h4, if_neg h5, if_neg h6, if_pos rfl]
    · unfold f_X7_count; rw [gd_t hp1, if_neg h0, if_neg h1, if_neg h2, if_neg h3, if_neg h4, if_neg h5, if_neg h6, if_pos rfl, q1]
  refine ⟨-1, nz, nr, nb, ne, nT, nN, nG, nLU, nLL, nHU, nHL, fF, 0, mlev, mHeard, mNum, mLU, mLD, mHU, mHD, mFirst, ?_, ?_, h⟩
  · unfold f_X6_count; rw [gd_t hp1, if_neg h0, if_neg h1, if_neg h2, if_neg h3, if_neg h4, if_neg h5, if_neg h6, if_neg h7]
  · unfold f_X7_count; rw [gd_t hp1, if_neg h0, if_neg h1, if_neg h2, if_neg h3, if_neg h4, if_neg h5, if_neg h6, if_neg h7]
