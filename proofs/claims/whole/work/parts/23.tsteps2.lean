/-! PURE: adds, strikes -/
theorem e_refuses {p1 az : Int} {T : Nat → Int} (hp : zR p1) (h0 : 0 ≤ az) (h7 : az ≤ 7) (hT : ∀ k : Nat, (k : Int) < az → zR (T k)) : ∃ r, f_X6_refusesNew p1 az T = some r ∧ ((r = -1 ∧ ¬ (0 ≤ p1 ∧ p1 ≤ 2999)) ∨ (r = -2 ∧ (0 ≤ p1 ∧ p1 ≤ 2999) ∧ ∃ k : Nat, (k : Int) < az ∧ T k = p1) ∨ (r = -3 ∧ (0 ≤ p1 ∧ p1 ≤ 2999) ∧ (∀ k : Nat, (k : Int) < az → T k ≠ p1) ∧ az = 7) ∨ (r = 0 ∧ (0 ≤ p1 ∧ p1 ≤ 2999) ∧ (∀ k : Nat, (k : Int) < az → T k ≠ p1) ∧ az < 7)) := by
  obtain ⟨r1, e1, h1⟩ := e_hears hp h0 h7 hT
  obtain ⟨q1, q2⟩ := hp
  unfold f_X6_refusesNew
  by_cases hc : 0 ≤ p1 ∧ p1 ≤ 2999
  · have e2 : f_X6_isTime p1 = some 1 := by simp (disch := omega) only [f_X6_isTime, gd_t, if_true, if_false, if_pos, if_neg]
    rw [e2, e1]
    rcases h1 with ⟨rfl, h1⟩ | ⟨rfl, h1⟩
    · exact ⟨-2, by simp (disch := omega) only [gd_t, if_true, if_false, if_neg, Option.bind_some], Or.inr (Or.inl ⟨rfl, hc, h1⟩)⟩
    · by_cases h : az < 7
      · exact ⟨0, by simp (disch := omega) only [gd_t, if_true, if_false, if_pos, if_neg, Option.bind_some], Or.inr (Or.inr (Or.inr ⟨rfl, hc, h1, h⟩))⟩
      · exact ⟨-3, by simp (disch := omega) only [gd_t, if_true, if_false, if_pos, if_neg, Option.bind_some], Or.inr (Or.inr (Or.inl ⟨rfl, hc, h1, by omega⟩))⟩
  · have e2 : f_X6_isTime p1 = some 0 := by
      by_cases h : p1 < 0
      · simp (disch := omega) only [f_X6_isTime, gd_t, if_true, if_false, if_pos]
      · simp (disch := omega) only [f_X6_isTime, gd_t, if_true, if_false, if_neg]
    rw [e2]
    exact ⟨-1, by simp (disch := omega) only [gd_t, if_true, if_false, if_pos, Option.bind_some], Or.inl ⟨rfl, hc⟩⟩
/-- two rows, one time more in both: they are alike again -/
theorem zBoth_ins {R R2 : Nat → Int} {z lo hi sl t : Int} {T T2 : Nat → Int} {q q2 : Nat} (h : zBoth R 0 z lo hi sl T) (h6 : z ≤ 6) (ht0 : 0 ≤ t) (ht : t ≤ 2999) (hne : ∀ k : Nat, (k : Int) < z → T k ≠ t) (hi6 : zIns z T t q T2) (c1 : ∀ k : Nat, q ≤ k → (k : Int) < z → t < T k) (c2 : 0 < q → T (q - 1) ≤ t) (e0 : R2 0 = R 0 + 1) (e1 : R2 1 = R 1) (e2 : R2 2 = R 2) (e3 : R2 3 = R 3) (hi7 : zIns (R 0) (fun k => R (4 + k)) t q2 (fun k => R2 (4 + k))) (d1 : ∀ k : Nat, k < q2 → R (4 + k) < t) (d2 : (q2 : Int) < R 0 → t < R (4 + q2)) : q = q2 ∧ zBoth R2 0 (z + 1) lo hi sl T2 := by
  obtain ⟨⟨a1, a2, a3, a4, a5, a6, a7, a8, a9, a10⟩, b1, b2, b3, b4, b5⟩ := h
  have b5' : ∀ k : Nat, (k : Int) < z → R (4 + k) = T k := fun k hk => by rw [← b5 k hk, Nat.zero_add]
  obtain ⟨x1, x2, x3, x4⟩ := hi6
  obtain ⟨y1, y2, y3, y4⟩ := hi7
  dsimp only at y2 y3 y4
  have hq : q = q2 := by
    rcases Nat.lt_trichotomy q q2 with hlt | heq | hgt
    · exfalso
      have u1 := d1 q hlt
      rw [b5' q (by omega)] at u1
      have u2 := c1 q (Nat.le_refl q) (by omega)
      omega
    · exact heq
    · exfalso
      have u1 := d2 (by omega)
      rw [b5' q2 (by omega)] at u1
      have u2 := c2 (by omega)
      by_cases e : q2 = q - 1
      · rw [e] at u1; omega
      · have u3 := t_lt a10 (show q2 < q - 1 by omega) (by omega)
        omega
  subst hq
  refine ⟨rfl, ⟨by omega, by omega, a3, a4, a5, a6, a7, a8, fun k hk => ?_, fun k hk => ?_⟩, ?_, ?_, ?_, ?_, fun k hk => ?_⟩
  · rcases Nat.lt_trichotomy k q with h1 | h1 | h1
    · rw [x2 k h1]; exact a9 k (by omega)
    · rw [h1, x3]; exact ⟨ht0, ht⟩
    · have := x4 (k - 1) (by omega) (by omega)
      rw [show k - 1 + 1 = k by omega] at this
      rw [this]; exact a9 (k - 1) (by omega)
  · rcases Nat.lt_trichotomy (k + 1) q with h1 | h1 | h1
    · rw [x2 k (by omega), x2 (k + 1) h1]; exact a10 k (by omega)
    · rw [x2 k (by omega), h1, x3]
      have u1 := c2 (by omega)
      rw [show q - 1 = k by omega] at u1
      have u2 := hne k (by omega)
      omega
    · by_cases e : k = q
      · rw [e, x3, x4 q (Nat.le_refl q) (by omega)]; exact c1 q (Nat.le_refl q) (by omega)
      · have v1 := x4 (k - 1) (by omega) (by omega)
        rw [show k - 1 + 1 = k by omega] at v1
        rw [v1, x4 k (by omega) (by omega)]
        have := a10 (k - 1) (by omega)
        rw [show k - 1 + 1 = k by omega] at this
        exact this
  · rw [e0, b1]
  · rw [show 0 + 1 = 1 by rfl, e1]; exact b2
  · rw [show 0 + 2 = 2 by rfl, e2]; exact b3
  · rw [show 0 + 3 = 3 by rfl, e3]; exact b4
  · rw [Nat.zero_add]
    rcases Nat.lt_trichotomy k q with h1 | h1 | h1
    · rw [y2 k h1, x2 k h1]; exact b5' k (by omega)
    · rw [h1, y3, x3]
    · have u := y4 (k - 1) (by omega) (by omega)
      have v := x4 (k - 1) (by omega) (by omega)
      rw [show k - 1 + 1 = k by omega] at u v
      rw [u, v]; exact b5' (k - 1) (by omega)
theorem e_rplace {R : Nat → Int} {z lo hi sl t : Int} {T : Nat → Int} {q : Nat} (h : zBoth R 0 z lo hi sl T) (ht : zR t) (hq : (q : Int) < z) (hT : T q = t) : f_X7_placeOf t R = some (q : Int) := by
  obtain ⟨⟨a1, a2, a3, a4, a5, a6, a7, a8, a9, a10⟩, b1, b2, b3, b4, b5⟩ := h
  have b5' : ∀ k : Nat, (k : Int) < z → R (4 + k) = T k := fun k hk => by rw [← b5 k hk, Nat.zero_add]
  obtain ⟨r, e, p, h1, h2, h3⟩ := e_placeOf (p1 := t) (R := R) ht (by omega) (by omega) (fun k hk => by rw [b5' k (by omega)]; have := a9 k (by omega); exact ⟨by omega, by omega⟩)
  rw [e]
  rcases Nat.lt_trichotomy p q with g | g | g
  · exfalso
    have u := t_lt a10 g hq
    rcases h3 with ⟨v1, v2, -⟩ | ⟨v1, -⟩
    · rw [b5' p (by omega)] at v2; omega
    · have := v1 (by omega)
      rw [b5' p (by omega)] at this; omega
  · subst g
    rcases h3 with ⟨v1, v2, v3⟩ | ⟨v1, -⟩
    · rw [v3]
    · exfalso
      have := v1 (by omega)
      rw [b5' p (by omega)] at this; omega
  · exfalso
    have := h2 q g
    rw [b5' q (by omega)] at this; omega
theorem zRz {R : Nat → Int} {z lo hi sl : Int} {T : Nat → Int} (h : zBoth R 0 z lo hi sl T) : (∀ k : Nat, (k : Int) < z → zR (T k)) ∧ (∀ k : Nat, (k : Int) < R 0 → zR (R (4 + k))) := by
  obtain ⟨⟨a1, a2, a3, a4, a5, a6, a7, a8, a9, a10⟩, b1, b2, b3, b4, b5⟩ := h
  refine ⟨fun k hk => ?_, fun k hk => ?_⟩
  · have := a9 k hk
    exact ⟨by omega, by omega⟩
  · have := a9 k (by omega)
    have e := b5 k (by omega)
    rw [Nat.zero_add] at e
    rw [e]
    exact ⟨by omega, by omega⟩
theorem m_adds1 {p1 macts : Int} {mNow mWas : Nat → Int} (hp1 : zR p1) (h1 : ¬ (0 ≤ p1 ∧ p1 ≤ 2999)) : f_X7_adds p1 macts mNow mWas = some (-1, 0, macts, mNow, mWas) := by
  have ei := e_in (a := p1) (b := 0) (c := 2999) hp1 ⟨by omega, by omega⟩ ⟨by omega, by omega⟩
  rw [if_neg h1] at ei
  unfold f_X7_adds
  rw [ei, gd_t hp1, Option.bind_some, gd_t zR0, if_pos rfl]
theorem m_adds2 {p1 macts r : Int} {mNow mWas : Nat → Int} (hp1 : zR p1) (h1 : 0 ≤ p1 ∧ p1 ≤ 2999) (e : f_X7_placeOf p1 mNow = some r) (h0 : 0 ≤ r) (h7 : r ≤ 7) : f_X7_adds p1 macts mNow mWas = some (-2, 0, macts, mNow, mWas) := by
  have ei := e_in (a := p1) (b := 0) (c := 2999) hp1 ⟨by omega, by omega⟩ ⟨by omega, by omega⟩
  rw [if_pos h1] at ei
  unfold f_X7_adds
  rw [ei, gd_t hp1, Option.bind_some, gd_t ⟨by omega, by omega⟩, if_neg (by omega), e, Option.bind_some, gd_t ⟨by omega, by omega⟩, if_neg (by omega)]
theorem m_adds3 {p1 macts r : Int} {mNow mWas : Nat → Int} (hp1 : zR p1) (h1 : 0 ≤ p1 ∧ p1 ≤ 2999) (e : f_X7_placeOf p1 mNow = some r) (h0 : r < 0) (h8 : -8 ≤ r) (h7 : mNow 0 = 7) : f_X7_adds p1 macts mNow mWas = some (-3, 0, macts, mNow, mWas) := by
  have ei := e_in (a := p1) (b := 0) (c := 2999) hp1 ⟨by omega, by omega⟩ ⟨by omega, by omega⟩
  rw [if_pos h1] at ei
  unfold f_X7_adds
  rw [ei, gd_t hp1, Option.bind_some, gd_t ⟨by omega, by omega⟩, if_neg (by omega), e, Option.bind_some, gd_t ⟨by omega, by omega⟩, if_pos h0, gd_t ⟨⟨by omega, by omega⟩, by omega, by omega⟩, if_pos h7]
theorem m_adds4 {p1 macts r r2 a2 : Int} {mNow mWas W2 R2 : Nat → Int} (hp1 : zR p1) (h1 : 0 ≤ p1 ∧ p1 ≤ 2999) (e : f_X7_placeOf p1 mNow = some r) (h0 : r < 0) (h8 : -8 ≤ r) (h7 : 0 ≤ mNow 0 ∧ mNow 0 < 7) (e5 : f_X7_keepAct macts mNow mWas = some (a2, W2)) (e7 : f_X7_put p1 mNow = some R2) (e8 : f_X7_placeOf p1 R2 = some r2) : f_X7_adds p1 macts mNow mWas = some (r2, 0, a2, R2, W2) := by
  have ei := e_in (a := p1) (b := 0) (c := 2999) hp1 ⟨by omega, by omega⟩ ⟨by omega, by omega⟩
  rw [if_pos h1] at ei
  unfold f_X7_adds
  rw [ei, gd_t hp1, Option.bind_some, gd_t ⟨by omega, by omega⟩, if_neg (by omega), e, Option.bind_some, gd_t ⟨by omega, by omega⟩, if_pos h0, gd_t ⟨⟨by omega, by omega⟩, by omega, by omega⟩, if_neg (by omega), e5, Option.bind_some]
  dsimp only
  rw [e7, Option.bind_some, e8, Option.bind_some]
theorem sp_adds (az : Int) (alo : Int) (ahi : Int) (asl : Int) (aT : Nat → Int) (pn : Int) (pz : Int) (pZ : Nat → Int) (pLo : Nat → Int) (pHi : Nat → Int) (pSl : Nat → Int) (pT : Nat → Nat → Int) (jZ : Nat → Int) (jLo : Nat → Int) (jHi : Nat → Int) (jSl : Nat → Int) (jT : Nat → Nat → Int) (kK : Nat → Int) (rn : Int) (rL : Nat → Int) (mmany : Int) (macts : Int) (mText : Nat → Int) (mNow : Nat → Int) (mWas : Nat → Int) (mIsK : Nat → Int) (mKept : Nat → Int) (p1 : Int) (hp1 : zR p1) (h : zRel az alo ahi asl aT pn pz pZ pLo pHi pSl pT jZ jLo jHi jSl jT kK rn rL mmany mText mNow mWas macts mIsK mKept) : ∃ (r : Int) (az' : Int) (aT' : Nat → Int) (pn' : Int) (pz' : Int) (pZ' : Nat → Int) (pLo' : Nat → Int) (pHi' : Nat → Int) (pSl' : Nat → Int) (pT' : Nat → Nat → Int) (mth' : Int) (macts' : Int) (mNow' : Nat → Int) (mWas' : Nat → Int), f_X6_adds p1 az alo ahi asl aT pn pz pZ pLo pHi pSl pT = some (r, az', aT', pn', pz', pZ', pLo', pHi', pSl', pT') ∧ f_X7_adds p1 macts mNow mWas = some (r, mth', macts', mNow', mWas') ∧ zRel az' alo ahi asl aT' pn' pz' pZ' pLo' pHi' pSl' pT' jZ jLo jHi jSl jT kK rn rL mmany mText mNow' mWas' macts' mIsK mKept := by
  obtain ⟨hN, ⟨p0, p9, z0, z10, rfl, hR⟩, hIm, hTx⟩ := h
  obtain ⟨w1, w2⟩ := zRz hN
  have hN' := hN
  obtain ⟨⟨a1, a2, a3, a4, a5, a6, a7, a8, a9, a10⟩, b1, b2, b3, b4, b5⟩ := hN'
  have b5' : ∀ k : Nat, (k : Int) < az → mNow (4 + k) = aT k := fun k hk => by rw [← b5 k hk, Nat.zero_add]
  obtain ⟨r1, e1, h1⟩ := e_refuses hp1 a1 a2 w1
  obtain ⟨r2, e2, q, g1, g2, g3⟩ := e_placeOf hp1 (R := mNow) (by omega) (by omega) w2
  rcases h1 with ⟨rfl, h1⟩ | ⟨rfl, h1, k, hk1, hk2⟩ | ⟨rfl, h1, h2, h3⟩ | ⟨rfl, h1, h2, h3⟩
  · refine ⟨-1, az, aT, pn, macts, pZ, pLo, pHi, pSl, pT, 0, macts, mNow, mWas, ?_, ?_, hN, ⟨p0, p9, z0, z10, rfl, hR⟩, hIm, hTx⟩
    · unfold f_X6_adds
      rw [e1]
      simp (disch := omega) only [gd_t, if_true, if_false, if_neg, Option.bind_some]
    · exact m_adds1 hp1 h1
  · have e3 := e_rplace hN hp1 hk1 hk2
    refine ⟨-2, az, aT, pn, macts, pZ, pLo, pHi, pSl, pT, 0, macts, mNow, mWas, ?_, ?_, hN, ⟨p0, p9, z0, z10, rfl, hR⟩, hIm, hTx⟩
    · unfold f_X6_adds
      rw [e1]
      simp (disch := omega) only [gd_t, if_true, if_false, if_neg, Option.bind_some]
    · exact m_adds2 hp1 h1 e3 (by omega) (by omega)
  · have hr : r2 < 0 ∧ -8 ≤ r2 := by
      rcases g3 with ⟨v1, v2, -⟩ | ⟨-, v⟩
      · exact absurd (by rw [← b5' q (by omega)]; exact v2) (h2 q (by omega))
      · omega
    refine ⟨-3, az, aT, pn, macts, pZ, pLo, pHi, pSl, pT, 0, macts, mNow, mWas, ?_, ?_, hN, ⟨p0, p9, z0, z10, rfl, hR⟩, hIm, hTx⟩
    · unfold f_X6_adds
      rw [e1]
      simp (disch := omega) only [gd_t, if_true, if_false, if_neg, Option.bind_some]
    · exact m_adds3 hp1 h1 e2 hr.1 hr.2 (by omega)
  · have hr : r2 < 0 ∧ -8 ≤ r2 := by
      rcases g3 with ⟨v1, v2, -⟩ | ⟨-, v⟩
      · exact absurd (by rw [← b5' q (by omega)]; exact v2) (h2 q (by omega))
      · omega
    obtain ⟨S, e4, hS⟩ := e_push pn macts pZ pLo pHi pSl pT az alo ahi asl aT p0 p9 z0 z10
    obtain ⟨W2, e5, v1, v2⟩ := e_keepAct macts mNow mWas z0 z10
    obtain ⟨q6, T2, e6, i6, c1, c2⟩ := e_place hp1 a1 (by omega) w1
    obtain ⟨R2, q7, e7, s0, s1, s2, s3, i7, d1, d2⟩ := e_put hp1 (R := mNow) (by omega) (by omega) w2 (fun k hk => by rw [b5' k (by omega)]; exact h2 k (by omega))
    obtain ⟨rfl, hb⟩ := zBoth_ins hN (by omega) h1.1 h1.2 h2 i6 c1 c2 s0 s1 s2 s3 i7 d1 d2
    have e8 := e_rplace hb hp1 (q := q6) (by have := i6.1; omega) i6.2.2.1
    obtain ⟨k0, k9, k1, k10, kR⟩ := zPast_push (T := S) (W2 := W2) hN ⟨p0, p9, z0, z10, hR⟩ hS v1 v2
    refine ⟨(q6 : Int), az + 1, T2, (pn + 1) % 10, min (macts + 1) 10, zup pZ pn az, zup pLo pn alo, zup pHi pn ahi, zup pSl pn asl, zup pT pn S, 0, min (macts + 1) 10, R2, W2, ?_, ?_, hb, ⟨k0, k9, k1, k10, rfl, kR⟩, hIm, hTx⟩
    · unfold f_X6_adds
      rw [e1, e4, e6]
      simp (disch := omega) only [gd_t, if_true, if_false, if_pos, Option.bind_some]
    · exact m_adds4 hp1 h1 e2 hr.1 hr.2 (by omega) e5 e7 e8
/-- two rows, one time less in both -/
theorem zBoth_del {R R2 : Nat → Int} {z lo hi sl : Int} {T T2 : Nat → Int} {q : Nat} (h : zBoth R 0 z lo hi sl T) (hq : (q : Int) < z) (h6 : zDel z T q T2) (e0 : R2 0 = R 0 - 1) (e1 : R2 1 = R 1) (e2 : R2 2 = R 2) (e3 : R2 3 = R 3) (h7 : zDel (R 0) (fun k => R (4 + k)) q (fun k => R2 (4 + k))) : zBoth R2 0 (z - 1) lo hi sl T2 := by
  obtain ⟨⟨a1, a2, a3, a4, a5, a6, a7, a8, a9, a10⟩, b1, b2, b3, b4, b5⟩ := h
  have b5' : ∀ k : Nat, (k : Int) < z → R (4 + k) = T k := fun k hk => by rw [← b5 k hk, Nat.zero_add]
  obtain ⟨x1, x2⟩ := h6
  obtain ⟨y1, y2⟩ := h7
  dsimp only at y1 y2
  refine ⟨⟨by omega, by omega, a3, a4, a5, a6, a7, a8, fun k hk => ?_, fun k hk => ?_⟩, ?_, ?_, ?_, ?_, fun k hk => ?_⟩
  · by_cases h1 : k < q
    · rw [x1 k h1]; exact a9 k (by omega)
    · rw [x2 k (by omega) (by omega)]; exact a9 (k + 1) (by omega)
  · by_cases h1 : k + 1 < q
    · rw [x1 k (by omega), x1 (k + 1) h1]; exact a10 k (by omega)
    · by_cases h2 : k < q
      · rw [x1 k h2, x2 (k + 1) (by omega) (by omega)]
        have u := a10 k (by omega)
        have v := a10 (k + 1) (by omega)
        omega
      · rw [x2 k (by omega) (by omega), x2 (k + 1) (by omega) (by omega)]; exact a10 (k + 1) (by omega)
  · rw [e0, b1]
  · rw [show 0 + 1 = 1 by rfl, e1]; exact b2
  · rw [show 0 + 2 = 2 by rfl, e2]; exact b3
  · rw [show 0 + 3 = 3 by rfl, e3]; exact b4
  · rw [Nat.zero_add]
    by_cases h1 : k < q
    · rw [y1 k h1, x1 k h1]; exact b5' k (by omega)
    · rw [y2 k (by omega) (by omega), x2 k (by omega) (by omega)]; exact b5' (k + 1) (by omega)
theorem sp_strikes (az : Int) (alo : Int) (ahi : Int) (asl : Int) (aT : Nat → Int) (pn : Int) (pz : Int) (pZ : Nat → Int) (pLo : Nat → Int) (pHi : Nat → Int) (pSl : Nat → Int) (pT : Nat → Nat → Int) (jZ : Nat → Int) (jLo : Nat → Int) (jHi : Nat → Int) (jSl : Nat → Int) (jT : Nat → Nat → Int) (kK : Nat → Int) (rn : Int) (rL : Nat → Int) (mmany : Int) (macts : Int) (mText : Nat → Int) (mNow : Nat → Int) (mWas : Nat → Int) (mIsK : Nat → Int) (mKept : Nat → Int) (p1 : Int) (hp1 : zR p1) (h : zRel az alo ahi asl aT pn pz pZ pLo pHi pSl pT jZ jLo jHi jSl jT kK rn rL mmany mText mNow mWas macts mIsK mKept) : ∃ (r : Int) (az' : Int) (aT' : Nat → Int) (pn' : Int) (pz' : Int) (pZ' : Nat → Int) (pLo' : Nat → Int) (pHi' : Nat → Int) (pSl' : Nat → Int) (pT' : Nat → Nat → Int) (mth' : Int) (macts' : Int) (mNow' : Nat → Int) (mWas' : Nat → Int), f_X6_strikes p1 az alo ahi asl aT pn pz pZ pLo pHi pSl pT = some (r, az', aT', pn', pz', pZ', pLo', pHi', pSl', pT') ∧ f_X7_strikes p1 macts mNow mWas = some (r, mth', macts', mNow', mWas') ∧ zRel az' alo ahi asl aT' pn' pz' pZ' pLo' pHi' pSl' pT' jZ jLo jHi jSl jT kK rn rL mmany mText mNow' mWas' macts' mIsK mKept := by
  obtain ⟨hN, ⟨p0, p9, z0, z10, rfl, hR⟩, hIm, hTx⟩ := h
  have hN' := hN
  obtain ⟨⟨a1, a2, a3, a4, a5, a6, a7, a8, a9, a10⟩, b1, b2, b3, b4, b5⟩ := hN'
  by_cases hc : 0 ≤ p1 ∧ p1 < az
  · obtain ⟨S, e4, hS⟩ := e_push pn macts pZ pLo pHi pSl pT az alo ahi asl aT p0 p9 z0 z10
    obtain ⟨W2, e5, v1, v2⟩ := e_keepAct macts mNow mWas z0 z10
    obtain ⟨T2, e6, i6⟩ := e_drop (T := aT) hc.1 hc.2 a2
    obtain ⟨R2, e7, s0, s1, s2, s3, i7⟩ := e_rdrop (R := mNow) (p1 := p1) hc.1 (by omega) (by omega)
    have hb := zBoth_del hN (by omega) i6 s0 s1 s2 s3 i7
    obtain ⟨k0, k9, k1, k10, kR⟩ := zPast_push (T := S) (W2 := W2) hN ⟨p0, p9, z0, z10, hR⟩ hS v1 v2
    refine ⟨aT p1.toNat, az - 1, T2, (pn + 1) % 10, min (macts + 1) 10, zup pZ pn az, zup pLo pn alo, zup pHi pn ahi, zup pSl pn asl, zup pT pn S, 0, min (macts + 1) 10, R2, W2, ?_, ?_, hb, ⟨k0, k9, k1, k10, rfl, kR⟩, hIm, hTx⟩
    · unfold f_X6_strikes
      rw [e_hasArrival hp1 a1 a2, if_pos hc, e4, e6]
      simp (disch := omega) only [gd_t, if_true, if_false, if_neg, Option.bind_some]
    · unfold f_X7_strikes
      rw [e_isArrival hp1 (by omega) (by omega), if_pos (by omega), e5, e7]
      simp (disch := omega) only [gd_t, if_true, if_false, if_neg, Option.bind_some, zlt_t]
      have e := b5 p1.toNat (by omega)
      rw [show 0 + 4 + p1.toNat = Int.toNat (4 + p1) by omega] at e
      rw [e]
  · refine ⟨-1, az, aT, pn, macts, pZ, pLo, pHi, pSl, pT, 0, macts, mNow, mWas, ?_, ?_, hN, ⟨p0, p9, z0, z10, rfl, hR⟩, hIm, hTx⟩
    · unfold f_X6_strikes
      rw [e_hasArrival hp1 a1 a2, if_neg hc]
      simp (disch := omega) only [gd_t, if_true, if_false, if_pos, Option.bind_some]
    · unfold f_X7_strikes
      rw [e_isArrival hp1 (by omega) (by omega), if_neg (by omega)]
      simp (disch := omega) only [gd_t, if_true, if_false, if_pos, Option.bind_some]
