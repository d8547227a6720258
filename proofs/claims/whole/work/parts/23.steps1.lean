/-! PURE: the simple steps -/
theorem zR_of {x : Int} (a : -2147483648 ≤ x) (b : x < 2147483648) : zR x := ⟨a, b⟩
theorem zChr_id {x : Int} (h0 : 0 ≤ x) (h1 : x ≤ 255) : zChr x = x := by
  have key : ∀ n : Nat, n < 256 → zChr (n : Int) = (n : Int) := by decide +kernel
  have := key x.toNat (by omega)
  rw [show ((x.toNat : Nat) : Int) = x by omega] at this
  exact this
theorem sp_type (az : Int) (alo : Int) (ahi : Int) (asl : Int) (aT : Nat → Int) (pn : Int) (pz : Int) (pZ : Nat → Int) (pLo : Nat → Int) (pHi : Nat → Int) (pSl : Nat → Int) (pT : Nat → Nat → Int) (jZ : Nat → Int) (jLo : Nat → Int) (jHi : Nat → Int) (jSl : Nat → Int) (jT : Nat → Nat → Int) (kK : Nat → Int) (rn : Int) (rL : Nat → Int) (mmany : Int) (macts : Int) (mText : Nat → Int) (mNow : Nat → Int) (mWas : Nat → Int) (mIsK : Nat → Int) (mKept : Nat → Int) (p1 : Int) (hp1 : zR p1) (h : zRel az alo ahi asl aT pn pz pZ pLo pHi pSl pT jZ jLo jHi jSl jT kK rn rL mmany mText mNow mWas macts mIsK mKept) : ∃ (r : Int) (rn' : Int) (rL' : Nat → Int) (mth' : Int) (mmany' : Int) (mText' : Nat → Int), f_X6_type p1 rn rL = some (r, rn', rL') ∧ f_X7_type p1 mmany mText = some (r, mth', mmany', mText') ∧ zRel az alo ahi asl aT pn pz pZ pLo pHi pSl pT jZ jLo jHi jSl jT kK rn' rL' mmany' mText' mNow mWas macts mIsK mKept := by
  obtain ⟨hN, hPa, hIm, r0, r100, rfl, hTx⟩ := h
  obtain ⟨q1, q2⟩ := hp1
  have e7 := e_in (a := p1) (b := 0) (c := 255) ⟨q1, q2⟩ ⟨by omega, by omega⟩ ⟨by omega, by omega⟩
  by_cases h0 : 0 ≤ p1 ∧ p1 ≤ 255
  · obtain ⟨h0, h255⟩ := h0
    rw [if_pos ⟨h0, h255⟩] at e7
    by_cases hf : mmany < 100
    · refine ⟨mmany + 1, mmany + 1, zup rL mmany p1, 0, mmany + 1, zup mText mmany p1, ?_, ?_, hN, hPa, hIm, by omega, by omega, rfl, fun k hk => ?_⟩
      · have ez := zChr_id h0 h255
        simp (disch := omega) only [f_X6_type, f_X5_put, gd_t, if_true, if_false, if_pos, if_neg, Option.bind_some, ez]
      · unfold f_X7_type
        rw [e7]
        simp (disch := omega) only [gd_t, if_true, if_false, if_neg, Option.bind_some]
      · by_cases e : k = mmany.toNat
        · rw [zup_s e, zup_s e]; exact ⟨rfl, h0, h255⟩
        · rw [zup_n e, zup_n e]; exact hTx k (by omega)
    · refine ⟨-3, mmany, rL, 0, mmany, mText, ?_, ?_, hN, hPa, hIm, r0, r100, rfl, hTx⟩
      · simp (disch := omega) only [f_X6_type, f_X5_put, gd_t, if_true, if_false, if_pos, if_neg, Option.bind_some]
      · unfold f_X7_type
        rw [e7]
        simp (disch := omega) only [gd_t, if_true, if_false, if_pos, if_neg, Option.bind_some]
  · rw [if_neg h0] at e7
    refine ⟨-1, mmany, rL, 0, mmany, mText, ?_, ?_, hN, hPa, hIm, r0, r100, rfl, hTx⟩
    · by_cases h1 : p1 < 0
      · simp (disch := omega) only [f_X6_type, gd_t, if_true, if_false, if_pos]
      · simp (disch := omega) only [f_X6_type, gd_t, if_true, if_false, if_neg]
    · unfold f_X7_type
      rw [e7]
      simp (disch := omega) only [gd_t, if_true, if_false, if_pos, Option.bind_some]
theorem sp_clear (az : Int) (alo : Int) (ahi : Int) (asl : Int) (aT : Nat → Int) (pn : Int) (pz : Int) (pZ : Nat → Int) (pLo : Nat → Int) (pHi : Nat → Int) (pSl : Nat → Int) (pT : Nat → Nat → Int) (jZ : Nat → Int) (jLo : Nat → Int) (jHi : Nat → Int) (jSl : Nat → Int) (jT : Nat → Nat → Int) (kK : Nat → Int) (rn : Int) (rL : Nat → Int) (mmany : Int) (macts : Int) (mText : Nat → Int) (mNow : Nat → Int) (mWas : Nat → Int) (mIsK : Nat → Int) (mKept : Nat → Int) (h : zRel az alo ahi asl aT pn pz pZ pLo pHi pSl pT jZ jLo jHi jSl jT kK rn rL mmany mText mNow mWas macts mIsK mKept) : ∃ (r : Int) (rn' : Int) (mth' : Int) (mmany' : Int), f_X6_clear rn = some (r, rn') ∧ f_X7_clear mmany = some (r, mth', mmany') ∧ zRel az alo ahi asl aT pn pz pZ pLo pHi pSl pT jZ jLo jHi jSl jT kK rn' rL mmany' mText mNow mWas macts mIsK mKept := by
  obtain ⟨hN, hPa, hIm, r0, r100, rfl, hTx⟩ := h
  exact ⟨mmany, 0, 0, 0, rfl, rfl, hN, hPa, hIm, by omega, by omega, rfl, fun k hk => by omega⟩
theorem sp_time (az : Int) (alo : Int) (ahi : Int) (asl : Int) (aT : Nat → Int) (pn : Int) (pz : Int) (pZ : Nat → Int) (pLo : Nat → Int) (pHi : Nat → Int) (pSl : Nat → Int) (pT : Nat → Nat → Int) (jZ : Nat → Int) (jLo : Nat → Int) (jHi : Nat → Int) (jSl : Nat → Int) (jT : Nat → Nat → Int) (kK : Nat → Int) (rn : Int) (rL : Nat → Int) (mmany : Int) (macts : Int) (mText : Nat → Int) (mNow : Nat → Int) (mWas : Nat → Int) (mIsK : Nat → Int) (mKept : Nat → Int) (p1 : Int) (hp1 : zR p1) (h : zRel az alo ahi asl aT pn pz pZ pLo pHi pSl pT jZ jLo jHi jSl jT kK rn rL mmany mText mNow mWas macts mIsK mKept) : ∃ (r : Int) (mth' : Int), f_X6_time p1 az aT = some r ∧ f_X7_time p1 mNow = some (r, mth') ∧ zRel az alo ahi asl aT pn pz pZ pLo pHi pSl pT jZ jLo jHi jSl jT kK rn rL mmany mText mNow mWas macts mIsK mKept := by
  have h' := h
  obtain ⟨⟨⟨a1, a2, -⟩, b1, b2, b3, b4, b5⟩, -⟩ := h
  by_cases hc : 0 ≤ p1 ∧ p1 < az
  · refine ⟨aT p1.toNat, 0, ?_, ?_, h'⟩
    · unfold f_X6_time
      rw [e_hasArrival hp1 a1 a2, if_pos hc, Option.bind_some]
      simp (disch := omega) only [gd_t, if_true, if_false, if_neg]
    · unfold f_X7_time
      rw [e_isArrival hp1 (by omega) (by omega), if_pos (by omega), Option.bind_some]
      simp (disch := omega) only [gd_t, if_true, if_false, if_neg]
      have e := b5 p1.toNat (by omega)
      rw [show 0 + 4 + p1.toNat = Int.toNat (4 + p1) by omega] at e
      rw [e]
  · refine ⟨-1, 0, ?_, ?_, h'⟩
    · unfold f_X6_time
      rw [e_hasArrival hp1 a1 a2, if_neg hc, Option.bind_some]
      simp (disch := omega) only [gd_t, if_true, if_false, if_pos]
    · unfold f_X7_time
      rw [e_isArrival hp1 (by omega) (by omega), if_neg (by omega), Option.bind_some]
      simp (disch := omega) only [gd_t, if_true, if_false, if_pos]
/-- what can be undone, behind one more act -/
theorem zPast_push {az alo ahi asl : Int} {aT : Nat → Int} {pn pz : Int} {pZ pLo pHi pSl : Nat → Int} {pT : Nat → Nat → Int} {mNow mWas W2 : Nat → Int} {T : Nat → Int} (hN : zBoth mNow 0 az alo ahi asl aT) (hP : 0 ≤ pn ∧ pn ≤ 9 ∧ 0 ≤ pz ∧ pz ≤ 10 ∧ ∀ i : Nat, (i : Int) < pz → zBoth mWas (11 * i) (pZ ((pn - pz + i) % 10).toNat) (pLo ((pn - pz + i) % 10).toNat) (pHi ((pn - pz + i) % 10).toNat) (pSl ((pn - pz + i) % 10).toNat) (pT ((pn - pz + i) % 10).toNat)) (hT : ∀ k : Nat, k < 7 → T k = aT k) (h1 : pz < 10 → (∀ j : Nat, (j : Int) < 11 * pz → W2 j = mWas j) ∧ ∀ j : Nat, j < 11 → W2 ((11 * pz).toNat + j) = mNow j) (h2 : pz = 10 → (∀ j : Nat, j < 99 → W2 j = mWas (j + 11)) ∧ ∀ j : Nat, j < 11 → W2 (99 + j) = mNow j) : 0 ≤ (pn + 1) % 10 ∧ (pn + 1) % 10 ≤ 9 ∧ 0 ≤ min (pz + 1) 10 ∧ min (pz + 1) 10 ≤ 10 ∧ ∀ i : Nat, (i : Int) < min (pz + 1) 10 → zBoth W2 (11 * i) (zup pZ pn az (((pn + 1) % 10 - min (pz + 1) 10 + i) % 10).toNat) (zup pLo pn alo (((pn + 1) % 10 - min (pz + 1) 10 + i) % 10).toNat) (zup pHi pn ahi (((pn + 1) % 10 - min (pz + 1) 10 + i) % 10).toNat) (zup pSl pn asl (((pn + 1) % 10 - min (pz + 1) 10 + i) % 10).toNat) (zup pT pn T (((pn + 1) % 10 - min (pz + 1) 10 + i) % 10).toNat) := by
  obtain ⟨p0, p9, z0, z10, hR⟩ := hP
  refine ⟨by omega, by omega, by omega, by omega, fun i hi => ?_⟩
  by_cases hz : pz = 10
  · obtain ⟨w1, w2⟩ := h2 hz
    rw [show min (pz + 1) 10 = 10 by omega] at hi ⊢
    by_cases h9 : i = 9
    · subst h9
      have ei : (((pn + 1) % 10 - 10 + ((9 : Nat) : Int)) % 10).toNat = pn.toNat := by omega
      rw [zup_s ei, zup_s ei, zup_s ei, zup_s ei, zup_s ei]
      exact zBoth_of hN (fun j hj => by rw [Nat.zero_add]; exact w2 j hj) hT
    · have ei : (((pn + 1) % 10 - 10 + (i : Int)) % 10).toNat ≠ pn.toNat := by omega
      have e2 : (((pn + 1) % 10 - 10 + (i : Int)) % 10).toNat = ((pn - pz + ((i + 1 : Nat) : Int)) % 10).toNat := by omega
      rw [zup_n ei, zup_n ei, zup_n ei, zup_n ei, zup_n ei, e2]
      exact zBoth_of (hR (i + 1) (by omega)) (fun j hj => by rw [w1 _ (by omega)]; congr 1; omega) (fun k _ => rfl)
  · obtain ⟨w1, w2⟩ := h1 (by omega)
    rw [show min (pz + 1) 10 = pz + 1 by omega] at hi ⊢
    by_cases h9 : (i : Int) = pz
    · have ei : (((pn + 1) % 10 - (pz + 1) + (i : Int)) % 10).toNat = pn.toNat := by omega
      rw [zup_s ei, zup_s ei, zup_s ei, zup_s ei, zup_s ei]
      exact zBoth_of hN (fun j hj => by rw [Nat.zero_add, show 11 * i = (11 * pz).toNat by omega]; exact w2 j hj) hT
    · have ei : (((pn + 1) % 10 - (pz + 1) + (i : Int)) % 10).toNat ≠ pn.toNat := by omega
      have e2 : (((pn + 1) % 10 - (pz + 1) + (i : Int)) % 10).toNat = ((pn - pz + (i : Int)) % 10).toNat := by omega
      rw [zup_n ei, zup_n ei, zup_n ei, zup_n ei, zup_n ei, e2]
      exact zBoth_of (hR i (by omega)) (fun j hj => by rw [w1 _ (by omega)]) (fun k _ => rfl)
theorem sp_undo (az : Int) (alo : Int) (ahi : Int) (asl : Int) (aT : Nat → Int) (pn : Int) (pz : Int) (pZ : Nat → Int) (pLo : Nat → Int) (pHi : Nat → Int) (pSl : Nat → Int) (pT : Nat → Nat → Int) (jZ : Nat → Int) (jLo : Nat → Int) (jHi : Nat → Int) (jSl : Nat → Int) (jT : Nat → Nat → Int) (kK : Nat → Int) (rn : Int) (rL : Nat → Int) (mmany : Int) (macts : Int) (mText : Nat → Int) (mNow : Nat → Int) (mWas : Nat → Int) (mIsK : Nat → Int) (mKept : Nat → Int) (h : zRel az alo ahi asl aT pn pz pZ pLo pHi pSl pT jZ jLo jHi jSl jT kK rn rL mmany mText mNow mWas macts mIsK mKept) : ∃ (r : Int) (az' : Int) (alo' : Int) (ahi' : Int) (asl' : Int) (aT' : Nat → Int) (pn' : Int) (pz' : Int) (mth' : Int) (macts' : Int) (mNow' : Nat → Int), f_X6_undo az alo ahi asl aT pn pz pZ pLo pHi pSl pT = some (r, az', alo', ahi', asl', aT', pn', pz') ∧ f_X7_undo macts mNow mWas = some (r, mth', macts', mNow') ∧ zRel az' alo' ahi' asl' aT' pn' pz' pZ pLo pHi pSl pT jZ jLo jHi jSl jT kK rn rL mmany mText mNow' mWas macts' mIsK mKept := by
  obtain ⟨hN, ⟨p0, p9, z0, z10, rfl, hR⟩, hIm, hTx⟩ := h
  by_cases hz : macts = 0
  · refine ⟨-2, az, alo, ahi, asl, aT, pn, macts, 0, macts, mNow, ?_, ?_, hN, ⟨p0, p9, z0, z10, rfl, hR⟩, hIm, hTx⟩
    · unfold f_X6_undo
      rw [e_pull0 _ _ _ _ _ _ _ _ _ _ _ _ hz, Option.bind_some]
      simp (disch := omega) only [gd_t, if_true, if_false, if_pos]
    · simp (disch := omega) only [f_X7_undo, gd_t, if_true, if_false, if_pos]
  · obtain ⟨T, e6, hT⟩ := e_pull pn macts pZ pLo pHi pSl pT az alo ahi asl aT p0 p9 (by omega) z10
    obtain ⟨R2, e7, hR2⟩ := e_mundo macts mNow mWas (by omega) z10
    have hb := hR (macts - 1).toNat (by omega)
    have ei : ((pn - macts + (((macts - 1).toNat : Nat) : Int)) % 10) = (pn - 1) % 10 := by omega
    rw [ei] at hb
    refine ⟨macts - 1, pZ ((pn - 1) % 10).toNat, pLo ((pn - 1) % 10).toNat, pHi ((pn - 1) % 10).toNat, pSl ((pn - 1) % 10).toNat, T, (pn - 1) % 10, macts - 1, 0, macts - 1, R2, ?_, e7, ?_, ⟨by omega, by omega, by omega, by omega, rfl, fun i hi => ?_⟩, hIm, hTx⟩
    · unfold f_X6_undo
      rw [e6, Option.bind_some]
      simp (disch := omega) only [gd_t, if_true, if_false, if_neg]
    · exact zBoth_of hb (fun j hj => by rw [Nat.zero_add, hR2 j hj]; congr 1; omega) hT
    · have e3 : ((pn - 1) % 10 - (macts - 1) + (i : Int)) % 10 = (pn - macts + (i : Int)) % 10 := by omega
      rw [e3]
      exact hR i (by omega)
theorem sp_keep (az : Int) (alo : Int) (ahi : Int) (asl : Int) (aT : Nat → Int) (pn : Int) (pz : Int) (pZ : Nat → Int) (pLo : Nat → Int) (pHi : Nat → Int) (pSl : Nat → Int) (pT : Nat → Nat → Int) (jZ : Nat → Int) (jLo : Nat → Int) (jHi : Nat → Int) (jSl : Nat → Int) (jT : Nat → Nat → Int) (kK : Nat → Int) (rn : Int) (rL : Nat → Int) (mmany : Int) (macts : Int) (mText : Nat → Int) (mNow : Nat → Int) (mWas : Nat → Int) (mIsK : Nat → Int) (mKept : Nat → Int) (p1 : Int) (hp1 : zR p1) (h : zRel az alo ahi asl aT pn pz pZ pLo pHi pSl pT jZ jLo jHi jSl jT kK rn rL mmany mText mNow mWas macts mIsK mKept) : ∃ (r : Int) (jZ' : Nat → Int) (jLo' : Nat → Int) (jHi' : Nat → Int) (jSl' : Nat → Int) (jT' : Nat → Nat → Int) (kK' : Nat → Int) (mth' : Int) (mIsK' : Nat → Int) (mKept' : Nat → Int), f_X6_keep p1 az alo ahi asl aT jZ jLo jHi jSl jT kK = some (r, jZ', jLo', jHi', jSl', jT', kK') ∧ f_X7_keep p1 mNow mIsK mKept = some (r, mth', mIsK', mKept') ∧ zRel az alo ahi asl aT pn pz pZ pLo pHi pSl pT jZ' jLo' jHi' jSl' jT' kK' rn rL mmany mText mNow mWas macts mIsK' mKept' := by
  obtain ⟨hN, hPa, hIm, hTx⟩ := h
  obtain ⟨q1, q2⟩ := hp1
  by_cases hc : 0 ≤ p1 ∧ p1 ≤ 1
  · obtain ⟨c0, c1⟩ := hc
    obtain ⟨T, e6, hT⟩ := e_take (jZ (Int.toNat p1)) (jLo (Int.toNat p1)) (jHi (Int.toNat p1)) (jSl (Int.toNat p1)) (jT (Int.toNat p1)) az alo ahi asl aT
    obtain ⟨K2, e7, k1, k2⟩ := e_mkeep p1 mNow mIsK mKept c0 c1
    refine ⟨az, zup jZ p1 az, zup jLo p1 alo, zup jHi p1 ahi, zup jSl p1 asl, zup jT p1 T, zup kK p1 1, 0, zup mIsK p1 1, K2, ?_, ?_, hN, hPa, fun i hi => ?_, hTx⟩
    · have e1 : f_X6_isImage p1 = some 1 := by simp (disch := omega) only [f_X6_isImage, gd_t, if_true, if_false, if_pos, if_neg]
      unfold f_X6_keep
      rw [e1, e6]
      simp (disch := omega) only [gd_t, if_true, if_false, if_neg, Option.bind_some]
    · rw [e7, hN.2.1]
    · obtain ⟨i1, i2⟩ := hIm i hi
      by_cases e : i = p1.toNat
      · rw [zup_s e, zup_s e, zup_s e, zup_s e, zup_s e, zup_s e, zup_s e]
        refine ⟨rfl, Or.inr ⟨rfl, zBoth_of hN (fun j hj => ?_) hT⟩⟩
        rw [Nat.zero_add, e]; exact k1 j hj
      · rw [zup_n e, zup_n e, zup_n e, zup_n e, zup_n e, zup_n e, zup_n e]
        refine ⟨i1, ?_⟩
        rcases i2 with i2 | ⟨i2, i3⟩
        · exact Or.inl i2
        · exact Or.inr ⟨i2, zBoth_of i3 (fun j hj => k2 i j hi e hj) (fun k _ => rfl)⟩
  · refine ⟨-1, jZ, jLo, jHi, jSl, jT, kK, 0, mIsK, mKept, ?_, ?_, hN, hPa, hIm, hTx⟩
    · have e1 : f_X6_isImage p1 = some 0 := by
        by_cases h1 : p1 < 0
        · simp (disch := omega) only [f_X6_isImage, gd_t, if_true, if_false, if_pos]
        · simp (disch := omega) only [f_X6_isImage, gd_t, if_true, if_false, if_neg]
      unfold f_X6_keep
      rw [e1]
      simp (disch := omega) only [gd_t, if_true, if_false, if_pos, Option.bind_some]
    · unfold f_X7_keep
      rw [e_in ⟨q1, q2⟩ ⟨by omega, by omega⟩ ⟨by omega, by omega⟩, if_neg hc]
      simp (disch := omega) only [gd_t, if_true, if_false, if_pos, Option.bind_some]
theorem sp_back (az : Int) (alo : Int) (ahi : Int) (asl : Int) (aT : Nat → Int) (pn : Int) (pz : Int) (pZ : Nat → Int) (pLo : Nat → Int) (pHi : Nat → Int) (pSl : Nat → Int) (pT : Nat → Nat → Int) (jZ : Nat → Int) (jLo : Nat → Int) (jHi : Nat → Int) (jSl : Nat → Int) (jT : Nat → Nat → Int) (kK : Nat → Int) (rn : Int) (rL : Nat → Int) (mmany : Int) (macts : Int) (mText : Nat → Int) (mNow : Nat → Int) (mWas : Nat → Int) (mIsK : Nat → Int) (mKept : Nat → Int) (p1 : Int) (hp1 : zR p1) (h : zRel az alo ahi asl aT pn pz pZ pLo pHi pSl pT jZ jLo jHi jSl jT kK rn rL mmany mText mNow mWas macts mIsK mKept) : ∃ (r : Int) (az' : Int) (alo' : Int) (ahi' : Int) (asl' : Int) (aT' : Nat → Int) (pz' : Int) (mth' : Int) (macts' : Int) (mNow' : Nat → Int), f_X6_back p1 az alo ahi asl aT pz jZ jLo jHi jSl jT kK = some (r, az', alo', ahi', asl', aT', pz') ∧ f_X7_back p1 macts mNow mIsK mKept = some (r, mth', macts', mNow') ∧ zRel az' alo' ahi' asl' aT' pn pz' pZ pLo pHi pSl pT jZ jLo jHi jSl jT kK rn rL mmany mText mNow' mWas macts' mIsK mKept := by
  obtain ⟨hN, ⟨p0, p9, z0, z10, rfl, hR⟩, hIm, hTx⟩ := h
  obtain ⟨q1, q2⟩ := hp1
  by_cases hc : 0 ≤ p1 ∧ p1 ≤ 1
  · obtain ⟨c0, c1⟩ := hc
    have e1 : f_X6_isImage p1 = some 1 := by simp (disch := omega) only [f_X6_isImage, gd_t, if_true, if_false, if_pos, if_neg]
    obtain ⟨i1, i2⟩ := hIm p1.toNat (by omega)
    rcases i2 with i2 | ⟨i2, i3⟩
    · refine ⟨-2, az, alo, ahi, asl, aT, macts, 0, macts, mNow, ?_, ?_, hN, ⟨p0, p9, z0, z10, rfl, hR⟩, hIm, hTx⟩
      · unfold f_X6_back
        rw [e1]
        simp (disch := omega) only [gd_t, if_true, if_false, if_pos, if_neg, Option.bind_some]
      · unfold f_X7_back
        rw [e_in ⟨q1, q2⟩ ⟨by omega, by omega⟩ ⟨by omega, by omega⟩, if_pos ⟨c0, c1⟩]
        simp (disch := omega) only [gd_t, if_true, if_false, if_pos, if_neg, Option.bind_some]
    · obtain ⟨T, e6, hT⟩ := e_take az alo ahi asl aT (jZ (Int.toNat p1)) (jLo (Int.toNat p1)) (jHi (Int.toNat p1)) (jSl (Int.toNat p1)) (jT (Int.toNat p1))
      obtain ⟨R2, e7, k1⟩ := e_mback p1 macts mNow mIsK mKept c0 c1 (by rw [i1]; exact i2)
      have hb : zBoth R2 0 (jZ p1.toNat) (jLo p1.toNat) (jHi p1.toNat) (jSl p1.toNat) T := zBoth_of i3 (fun j hj => by rw [Nat.zero_add]; exact k1 j hj) hT
      refine ⟨jZ p1.toNat, jZ p1.toNat, jLo p1.toNat, jHi p1.toNat, jSl p1.toNat, T, 0, 0, 0, R2, ?_, ?_, hb, ⟨p0, p9, by omega, by omega, rfl, fun i hi => by omega⟩, hIm, hTx⟩
      · unfold f_X6_back
        rw [e1, e6]
        simp (disch := omega) only [gd_t, if_true, if_false, if_neg, Option.bind_some, f_X3_forget]
      · rw [e7, hb.2.1]
  · refine ⟨-1, az, alo, ahi, asl, aT, macts, 0, macts, mNow, ?_, ?_, hN, ⟨p0, p9, z0, z10, rfl, hR⟩, hIm, hTx⟩
    · have e1 : f_X6_isImage p1 = some 0 := by
        by_cases h1 : p1 < 0
        · simp (disch := omega) only [f_X6_isImage, gd_t, if_true, if_false, if_pos]
        · simp (disch := omega) only [f_X6_isImage, gd_t, if_true, if_false, if_neg]
      unfold f_X6_back
      rw [e1]
      simp (disch := omega) only [gd_t, if_true, if_false, if_pos, Option.bind_some]
    · unfold f_X7_back
      rw [e_in ⟨q1, q2⟩ ⟨by omega, by omega⟩ ⟨by omega, by omega⟩, if_neg hc]
      simp (disch := omega) only [gd_t, if_true, if_false, if_pos, Option.bind_some]
