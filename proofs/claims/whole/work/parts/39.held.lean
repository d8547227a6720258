/-! PURE: held of the reference -/
theorem m_held0 {p1 p2 mth lev : Int} {R H N LU LD HU HD : Nat → Int} : ∀ (d a : Nat) (S : Nat → Int), a + d = 512 → (∀ i : Nat, i < a → S i = 0) → ∃ S2 : Nat → Int, (∀ i : Nat, i < 512 → S2 i = 0) ∧ zev (st_X7_held p1 p2 R) (0, (a : Int), 0, 0, 0, mth, lev, H, N, LU, LD, HU, HD, S) = zev (st_X7_held p1 p2 R) (0, 512, 0, 0, 0, mth, lev, H, N, LU, LD, HU, HD, S2) := by
  intro d
  induction d with
  | zero =>
    intro a S h hs
    have : a = 512 := by omega
    subst this
    exact ⟨S, hs, rfl⟩
  | succ d ih =>
    intro a S h hs
    obtain ⟨S2, g1, g2⟩ := ih (a + 1) (zup S (a : Int) 0) (by omega) (fun i hia => by
      by_cases e : i = a
      · rw [zup_s (by omega)]
      · rw [zup_n (by omega)]; exact hs i (by omega))
    refine ⟨S2, g1, ?_⟩
    rw [← g2, show ((a + 1 : Nat) : Int) = (a : Int) + 1 by omega]
    exact zev_inl (by simp (disch := omega) only [st_X7_held, gd_t, if_pos])
def hSn (Q : List Int) (S : Nat → Int) : Prop := ∀ i : Nat, i < 512 → S i = if (i : Int) ∈ Q then 1 else 0
theorem m_held1 {k : Nat} {t R : Nat → Int} {s lo hi p2 mth : Int} {p : Nat} (C : zCt k t s lo hi) (hp : p + 1 < k) : ∀ (L : List (List Int × zB)) (Q : List Int) (lev : Int) (H N LU LD HU HD S : Nat → Int), mIt k t s lo hi lev H N LU LD HU HD L → (∀ w ∈ L, 1 ≤ hgp p w ∧ hgp p w ≤ 320) → hSn Q S → ∃ (l2 : Int) (H2 N2 LU2 LD2 HU2 HD2 S2 : Nat → Int), hSn (Q ++ L.map (hgp p)) S2 ∧ zev (st_X7_held (p : Int) p2 R) (1, 512, 0, 0, 0, mth, lev, H, N, LU, LD, HU, HD, S) = zev (st_X7_held (p : Int) p2 R) (2, 0, -9, -9, 0, mth, l2, H2, N2, LU2, LD2, HU2, HD2, S2) := by
  have hk7 : k ≤ 7 := C.1
  intro L
  induction L with
  | nil =>
    intro Q lev H N LU LD HU HD S hI _ hs
    obtain ⟨⟨r0, l1, S1, N1, A1, B1, C1, D1⟩, en, hn⟩ := e_goesOn C hI
    rcases hn with ⟨hr, -, -⟩ | ⟨hr, z, rest, hL, -⟩
    · have hr : r0 = 0 := hr
      subst hr
      refine ⟨l1, S1, N1, A1, B1, C1, D1, S, by rw [List.map_nil, List.append_nil]; exact hs, zev_inl (by simp (disch := omega) only [st_X7_held, gd_t, if_pos, if_true, en, Option.bind_some])⟩
    · cases hL
  | cons w L ih =>
    intro Q lev H N LU LD HU HD S hI hw hs
    obtain ⟨⟨r0, l1, S1, N1, A1, B1, C1, D1⟩, en, hn⟩ := e_goesOn C hI
    rcases hn with ⟨hr, hL, -⟩ | ⟨hr, z, rest, hL, p1, p2', hI2⟩
    · cases hL
    · have hr : r0 = 1 := hr
      subst hr
      have hz : w = z := (List.cons.inj hL).1
      have hrest : L = rest := (List.cons.inj hL).2
      subst hz
      subst hrest
      have p1 : pre N1 k = w.1 := p1
      have hwv := hw w List.mem_cons_self
      have ev : N1 (Int.toNat ((p : Int) + 1)) - N1 p = hgp p w := by
        unfold hgp
        rw [← p1, pre_nth N1 k _ hp, pre_nth N1 k _ (by omega), show Int.toNat ((p : Int) + 1) = p + 1 by omega]
      have eQ : Q ++ List.map (hgp p) (w :: L) = (Q ++ [hgp p w]) ++ List.map (hgp p) L := by
        rw [List.map_cons, List.append_assoc]
        rfl
      rw [eQ]
      have hs2 : hSn (Q ++ [hgp p w]) (zup S (hgp p w) 1) := fun i hi5 => by
        by_cases e : (i : Int) = hgp p w
        · rw [zup_s (by omega), if_pos (by rw [List.mem_append, List.mem_singleton]; exact Or.inr e)]
        · rw [zup_n (by omega), hs i hi5]
          have ee : (i : Int) ∈ Q ++ [hgp p w] ↔ (i : Int) ∈ Q := by
            rw [List.mem_append, List.mem_singleton]
            exact ⟨fun q => q.elim id (fun q => absurd q e), Or.inl⟩
          by_cases hn : (i : Int) ∈ Q
          · rw [if_pos hn, if_pos (ee.mpr hn)]
          · rw [if_neg hn, if_neg (fun q => hn (ee.mp q))]
      have i := ih (Q ++ [hgp p w]) l1 S1 N1 A1 B1 C1 D1 (zup S (hgp p w) 1) hI2 (fun v hv => hw v (List.mem_cons_of_mem _ hv)) hs2
      have s1 : zev (st_X7_held (p : Int) p2 R) (1, 512, 0, 0, 0, mth, lev, H, N, LU, LD, HU, HD, S) = zev (st_X7_held (p : Int) p2 R) (1, 512, 0, 0, 0, mth, l1, S1, N1, A1, B1, C1, D1, zup S (hgp p w) 1) := zev_inl (by simp (disch := omega) only [st_X7_held, gd_t, if_neg, en, Option.bind_some, Int.toNat_natCast, ev])
      rw [s1]
      exact i
def hM (Q : List Int) (a : Nat) (n l g : Int) : Prop := n = cnt Q a ∧ ((n = 0 ∧ l = -9 ∧ g = -9 ∧ ∀ x ∈ Q, (a : Int) ≤ x) ∨ (0 < n ∧ l ∈ Q ∧ g ∈ Q ∧ (∀ x ∈ Q, l ≤ x) ∧ g < (a : Int) ∧ ∀ x ∈ Q, x < (a : Int) → x ≤ g))
theorem m_held2 {R : Nat → Int} {Q : List Int} {p1 p2 mth lev : Int} {H N LU LD HU HD S : Nat → Int} (hQ : ∀ x ∈ Q, 0 ≤ x ∧ x < 512) (hS : hSn Q S) : ∀ (d a : Nat) (n l g : Int), a + d = 512 → hM Q a n l g → ∃ n2 l2 g2 : Int, hM Q 512 n2 l2 g2 ∧ zev (st_X7_held p1 p2 R) (2, n, l, g, (a : Int), mth, lev, H, N, LU, LD, HU, HD, S) = zev (st_X7_held p1 p2 R) (2, n2, l2, g2, 512, mth, lev, H, N, LU, LD, HU, HD, S) := by
  intro d
  induction d with
  | zero =>
    intro a n l g h hm
    have : a = 512 := by omega
    subst this
    exact ⟨n, l, g, hm, rfl⟩
  | succ d ih =>
    intro a n l g h hm
    have hs := hS a (by omega)
    have hb := cnt_bd Q a
    obtain ⟨m1, m2⟩ := hm
    have ec : cnt Q (a + 1) = cnt Q a + (if (a : Int) ∈ Q then 1 else 0) := rfl
    by_cases ha : (a : Int) ∈ Q
    · rw [if_pos ha] at hs ec
      have i := ih (a + 1) (n + 1) (if n = 0 then (a : Int) else l) (a : Int) (by omega) ⟨by omega, Or.inr ⟨by omega, ?_, ha, ?_, by omega, fun x hx hxa => by omega⟩⟩
      · obtain ⟨n2, l2, g2, i1, i2⟩ := i
        refine ⟨n2, l2, g2, i1, ?_⟩
        rw [← i2, show ((a + 1 : Nat) : Int) = (a : Int) + 1 by omega]
        by_cases h0 : n = 0
        · rw [if_pos h0]
          exact zev_inl (by simp (disch := omega) only [st_X7_held, gd_t, if_pos, if_neg, Int.toNat_natCast, hs])
        · rw [if_neg h0]
          exact zev_inl (by simp (disch := omega) only [st_X7_held, gd_t, if_pos, if_neg, Int.toNat_natCast, hs])
      · rcases m2 with ⟨q1, q2, q3, q4⟩ | ⟨q1, q2, q3, q4, q5, q6⟩
        · rw [if_pos q1]; exact ha
        · rw [if_neg (by omega)]; exact q2
      · rcases m2 with ⟨q1, q2, q3, q4⟩ | ⟨q1, q2, q3, q4, q5, q6⟩
        · rw [if_pos q1]; exact q4
        · rw [if_neg (by omega)]; exact q4
    · rw [if_neg ha] at hs ec
      have hne : ∀ x ∈ Q, x ≠ (a : Int) := fun x hx e => ha (e ▸ hx)
      have i := ih (a + 1) n l g (by omega) ⟨by omega, ?_⟩
      · obtain ⟨n2, l2, g2, i1, i2⟩ := i
        refine ⟨n2, l2, g2, i1, ?_⟩
        rw [← i2, show ((a + 1 : Nat) : Int) = (a : Int) + 1 by omega]
        exact zev_inl (by simp (disch := omega) only [st_X7_held, gd_t, if_pos, if_true, Int.toNat_natCast, hs])
      · rcases m2 with ⟨q1, q2, q3, q4⟩ | ⟨q1, q2, q3, q4, q5, q6⟩
        · exact Or.inl ⟨q1, q2, q3, fun x hx => by have := q4 x hx; have := hne x hx; omega⟩
        · exact Or.inr ⟨q1, q2, q3, q4, by omega, fun x hx hxa => q6 x hx (by have := hne x hx; omega)⟩
theorem m_held3 {R : Nat → Int} {n l g p1 p2 mth lev : Int} {H N LU LD HU HD S : Nat → Int} (hp2 : zR p2) : zev (st_X7_held p1 p2 R) (2, n, l, g, 512, mth, lev, H, N, LU, LD, HU, HD, S) = some ((if p2 = 0 then n else if p2 = 1 then l else g), mth, lev, H, N, LU, LD, HU, HD, S) := by
  by_cases h0 : p2 = 0
  · rw [if_pos h0]
    exact zev_inr (by simp (disch := omega) only [st_X7_held, gd_t, if_pos, if_neg])
  · by_cases h1 : p2 = 1
    · rw [if_neg h0, if_pos h1]
      exact zev_inr (by simp (disch := omega) only [st_X7_held, gd_t, if_pos, if_neg])
    · rw [if_neg h0, if_neg h1]
      exact zev_inr (by simp (disch := omega) only [st_X7_held, gd_t, if_neg])
theorem hM_end {Q : List Int} {n l g n2 l2 g2 w : Int} (hQ : ∀ x ∈ Q, 0 ≤ x ∧ x < 512) (h : hM Q 512 n l g) (h2 : hSt Q n2 l2 g2) : (if w = 0 then n else if w = 1 then l else g) = ofR n2 l2 g2 w := by
  obtain ⟨a, b⟩ := h
  rcases b with ⟨q1, q2, q3, q4⟩ | ⟨q1, q2, q3, q4, q5, q6⟩
  · have e : n = n2 := a.trans h2.1.symm
    unfold ofR
    rw [if_pos (show n2 ≤ 0 by omega), e, q2, q3]
    by_cases h0 : w = 0
    · rw [if_pos h0, if_pos h0]
    · rw [if_neg h0, if_neg h0]
      split <;> rfl
  · have h1 : hSt Q n l g := ⟨a, Or.inr ⟨fun e => by rw [e] at q2; exact absurd q2 List.not_mem_nil, q1, q2, q3, fun x hx => ⟨q4 x hx, q6 x hx (hQ x hx).2⟩⟩⟩
    rw [← hSt_one h1 h2]
    unfold ofR
    rw [if_neg (show ¬ n ≤ 0 by omega)]
theorem sp_held (az : Int) (alo : Int) (ahi : Int) (asl : Int) (aT : Nat → Int) (pn : Int) (pz : Int) (pZ : Nat → Int) (pLo : Nat → Int) (pHi : Nat → Int) (pSl : Nat → Int) (pT : Nat → Nat → Int) (jZ : Nat → Int) (jLo : Nat → Int) (jHi : Nat → Int) (jSl : Nat → Int) (jT : Nat → Nat → Int) (kK : Nat → Int) (rn : Int) (rL : Nat → Int) (nz : Int) (nr : Int) (nb : Int) (ne : Int) (nT : Nat → Int) (nN : Nat → Int) (nG : Nat → Int) (nLU : Nat → Int) (nLL : Nat → Int) (nHU : Nat → Int) (nHL : Nat → Int) (mmany : Int) (macts : Int) (mlev : Int) (mText : Nat → Int) (mNow : Nat → Int) (mWas : Nat → Int) (mIsK : Nat → Int) (mKept : Nat → Int) (mHeard : Nat → Int) (mNum : Nat → Int) (mLU : Nat → Int) (mLD : Nat → Int) (mHU : Nat → Int) (mHD : Nat → Int) (mSeen : Nat → Int) (p1 : Int) (hp1 : zR p1) (p2 : Int) (hp2 : zR p2) (h : zRel az alo ahi asl aT pn pz pZ pLo pHi pSl pT jZ jLo jHi jSl jT kK rn rL mmany mText mNow mWas macts mIsK mKept) : ∃ (r : Int) (nz' : Int) (nr' : Int) (nb' : Int) (ne' : Int) (nT' : Nat → Int) (nN' : Nat → Int) (nG' : Nat → Int) (nLU' : Nat → Int) (nLL' : Nat → Int) (nHU' : Nat → Int) (nHL' : Nat → Int) (mth' : Int) (mlev' : Int) (mHeard' : Nat → Int) (mNum' : Nat → Int) (mLU' : Nat → Int) (mLD' : Nat → Int) (mHU' : Nat → Int) (mHD' : Nat → Int) (mSeen' : Nat → Int), f_X6_held p1 p2 az alo ahi asl aT nz nr nb ne nT nN nG nLU nLL nHU nHL = some (r, nz', nr', nb', ne', nT', nN', nG', nLU', nLL', nHU', nHL') ∧ f_X7_held p1 p2 mlev mNow mHeard mNum mLU mLD mHU mHD mSeen = some (r, mth', mlev', mHeard', mNum', mLU', mLD', mHU', mHD', mSeen') ∧ zRel az alo ahi asl aT pn pz pZ pLo pHi pSl pT jZ jLo jHi jSl jT kK rn rL mmany mText mNow mWas macts mIsK mKept := by
  have h' := h
  obtain ⟨hN, -⟩ := h'
  have hN' := hN
  obtain ⟨⟨a1, a2, -⟩, b1, -⟩ := hN'
  have C := zCt_of hN.1
  have z2 : zR 2 := by decide
  have z6 : zR 6 := by decide
  have r1 : zR (az - 1) := ⟨by omega, by omega⟩
  have r2 : zR (az - 2) := ⟨by omega, by omega⟩
  have f1 := e_in (a := p1) (b := 0) (c := az - 2) hp1 zR0 r2
  have f2 := e_in (a := p2) (b := 0) (c := 2) hp2 zR0 z2
  by_cases hc : (0 ≤ p1 ∧ p1 ≤ az - 2) ∧ (0 ≤ p2 ∧ p2 ≤ 2)
  · obtain ⟨c1, c2⟩ := hc
    rw [if_pos c1] at f1
    rw [if_pos c2] at f2
    have hz : ((az.toNat : Nat) : Int) = az := by omega
    have hpp : ((p1.toNat : Nat) : Int) = p1 := by omega
    have hk : p1.toNat + 1 < az.toNat := by omega
    have hlen := tA_len C
    have hgq := tA_gp C hk
    have hpw := tA_pw C hk
    obtain ⟨b3, e3, T3, N3, LU3, LL3, HU3, HL3, eb, hI, -⟩ := e_begin nz nr nb ne nT nN nG nLU nLL nHU nHL hN.1
    obtain ⟨n4, l4, g4, b4, e4, N4, G4, LU4, LL4, HU4, HL4, s4, g⟩ := c_held C hk hp2 (tA az.toNat aT (2 * asl) alo ahi) [] 0 0 0 0 b3 e3 N3 nG LU3 LL3 HU3 HL3 hI (by omega) hgq hpw (fun x hx => absurd hx List.not_mem_nil) ⟨(cnt_nil 512).symm, by omega, by omega, Or.inl ⟨rfl, rfl, rfl⟩⟩
    rw [List.nil_append] at s4
    rw [hpp, hz, show ((0 : Nat) : Int) = 0 by rfl] at g
    have m1 : f_X6_held p1 p2 az alo ahi asl aT nz nr nb ne nT nN nG nLU nLL nHU nHL = some (ofR n4 l4 g4 p2, az, 2 * asl, b4, e4, T3, N4, G4, LU4, LL4, HU4, HL4) := by
      unfold f_X6_held
      rw [gd_t hp1, if_neg (by omega), gd_t ⟨hp1, r1⟩, if_pos (by omega), gd_t ⟨hp1, z6⟩, if_pos (by omega), gd_t hp2, if_neg (by omega), gd_t ⟨hp2, z2⟩, if_pos c2.2, eb, Option.bind_some]
      exact g
    obtain ⟨S5, s5, g5⟩ := m_held0 (p1 := p1) (p2 := p2) (mth := 0) (lev := mlev) (R := mNow) (H := mHeard) (N := mNum) (LU := mLU) (LD := mLD) (HU := mHU) (HD := mHD) 512 0 mSeen (by omega) (fun i hi0 => by omega)
    obtain ⟨H6, e6, hI6⟩ := e_mbegin mHeard mNum mLU mLD mHU mHD hN
    have g6 : zev (st_X7_held p1 p2 mNow) (0, 512, 0, 0, 0, 0, mlev, mHeard, mNum, mLU, mLD, mHU, mHD, S5) = zev (st_X7_held p1 p2 mNow) (1, 512, 0, 0, 0, 0, 0, H6, zup mNum 0 0, zup mLU 0 alo, zup mLD 0 1, zup mHU 0 ahi, zup mHD 0 1, S5) := zev_inl (by simp (disch := omega) only [st_X7_held, gd_t, if_neg, e6, Option.bind_some])
    obtain ⟨l7, H7, N7, LU7, LD7, HU7, HD7, S7, s7, g7⟩ := m_held1 (R := mNow) (p2 := p2) (mth := 0) C hk (tA az.toNat aT (2 * asl) alo ahi) [] 0 H6 (zup mNum 0 0) (zup mLU 0 alo) (zup mLD 0 1) (zup mHU 0 ahi) (zup mHD 0 1) S5 hI6 hgq (fun i hi5 => by rw [s5 i hi5, if_neg List.not_mem_nil])
    rw [List.nil_append] at s7
    rw [hpp] at g7
    have hQ : ∀ x ∈ (tA az.toNat aT (2 * asl) alo ahi).map (hgp p1.toNat), 0 ≤ x ∧ x < 512 := fun x hx => by
      obtain ⟨w, hw, rfl⟩ := List.mem_map.mp hx
      have := hgq w hw
      omega
    obtain ⟨n8, l8, g8, m8, g9⟩ := m_held2 (R := mNow) (p1 := p1) (p2 := p2) (mth := 0) (lev := l7) (H := H7) (N := N7) (LU := LU7) (LD := LD7) (HU := HU7) (HD := HD7) hQ s7 512 0 0 (-9) (-9) (by omega) ⟨rfl, Or.inl ⟨rfl, rfl, rfl, fun x hx => (hQ x hx).1⟩⟩
    have m2 : f_X7_held p1 p2 mlev mNow mHeard mNum mLU mLD mHU mHD mSeen = some (ofR n4 l4 g4 p2, 0, l7, H7, N7, LU7, LD7, HU7, HD7, S7) := by
      unfold f_X7_held
      rw [gd_t hp1, b1, gd_t r2, f1, Option.bind_some, gd_t zRone, if_neg (by omega), gd_t hp2, f2, Option.bind_some, gd_t zRone, if_neg (by omega)]
      rw [show ((0 : Nat) : Int) = 0 by rfl] at g5 g9
      rw [g5, g6, g7, g9, m_held3 hp2, hM_end hQ m8 s4]
    exact ⟨_, _, _, _, _, _, _, _, _, _, _, _, _, _, _, _, _, _, _, _, _, m1, m2, h⟩
  · refine ⟨-1, nz, nr, nb, ne, nT, nN, nG, nLU, nLL, nHU, nHL, 0, mlev, mHeard, mNum, mLU, mLD, mHU, mHD, mSeen, ?_, ?_, h⟩
    · unfold f_X6_held
      rw [gd_t hp1]
      by_cases c1 : p1 < 0
      · rw [if_pos c1]
      · rw [if_neg c1, gd_t ⟨hp1, r1⟩]
        by_cases c3 : p1 < az - 1
        · rw [if_pos c3, gd_t ⟨hp1, z6⟩, if_pos (by omega), gd_t hp2]
          by_cases c4 : p2 < 0
          · rw [if_pos c4]
          · rw [if_neg c4, gd_t ⟨hp2, z2⟩, if_neg (by omega)]
        · rw [if_neg c3]
    · unfold f_X7_held
      rw [gd_t hp1, b1, gd_t r2, f1, Option.bind_some]
      by_cases c1 : 0 ≤ p1 ∧ p1 ≤ az - 2
      · rw [if_pos c1, gd_t zRone, if_neg (by omega), gd_t hp2, f2, Option.bind_some, if_neg (by omega), gd_t zR0, if_pos rfl]
      · rw [if_neg c1, gd_t zR0, if_pos rfl]
