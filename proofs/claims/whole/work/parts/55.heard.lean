/-! PURE: heard: one item, all of them, the call -/
theorem e_one {n c s e tok val v last : Int} {T L F : Nat → Int} {rb ri az alo ahi asl : Int} {aT : Nat → Int} (hn : n ≤ 100) (hT : ∀ k : Nat, (k : Int) < n → T k = L k ∧ 0 ≤ L k ∧ L k ≤ 255) (ht : zTk n L c s e tok val v) (h0 : tok ≠ 0) (hl : -1 ≤ last) (hl2 : last < c) (hb : rb = 0 ∨ rb = 1) (h : zBoth F 0 az alo ahi asl aT) : ∃ (r e2 s2 tok2 val2 : Int) (F2 : Nat → Int), f_X7_readOne rb n e s tok val T F = some (r, e2, s2, tok2, val2, F2) ∧ ((r = 0 ∧ 0 ≤ s2 ∧ s2 ≤ n ∧ ∃ o : Int × Int × Int × Int × Int × Int × Int × (Nat → Int), zev (st_X5_read n L) (last, c, 0, rb, ri, az, alo, ahi, asl, aT) = some (-10 - s2, o)) ∨ (r = 1 ∧ ∃ (c2 v2 az2 alo2 ahi2 asl2 : Int) (aT2 : Nat → Int), c < c2 ∧ zTk n L c2 s2 e2 tok2 val2 v2 ∧ zBoth F2 0 az2 alo2 ahi2 asl2 aT2 ∧ zev (st_X5_read n L) (last, c, 0, rb, ri, az, alo, ahi, asl, aT) = zev (st_X5_read n L) (c2 - 1, c2, 0, if tok = 1 then 1 else rb, ri + 1, az2, alo2, ahi2, asl2, aT2))) := by
  have hL := fun (k : Nat) (hk : (k : Int) < n) => (hT k hk).2
  obtain ⟨m1, m2, m3, m4, m5, -⟩ := t_v ht
  obtain ⟨y1, -, y3⟩ := t_k ht
  obtain ⟨u1, u2⟩ := y1 h0
  obtain ⟨-, y4, y5⟩ := y3 u1
  have ht' := ht
  obtain ⟨p1, p2, p3, p4, -, -⟩ := ht'
  have z0 : 0 ≤ az := h.1.1
  have z7 : az ≤ 7 := h.1.2.1
  have f0 : F 0 = az := h.2.1
  have tk := t_item (l := L s.toNat) (v := v) (rb := rb) (ri := ri) (az := az) (alo := alo) (ahi := ahi) (asl := asl) (aT := aT) (hL s.toNat (by omega)) hb ⟨z0, z7⟩
  by_cases cA : tok = 1 ∧ rb = 0
  · obtain ⟨cA, cB⟩ := cA
    subst cB
    rw [if_pos (show L s.toNat = 98 ∧ (0 : Int) = 0 from ⟨y4.mp cA, rfl⟩)] at tk
    have g0 := (c_tok hn hL ht u1 hl hl2 tk).2 rfl
    rw [g0, if_pos cA]
    obtain ⟨r, e1, s1, k1, v1, F1, x1, q1, q2, q3, q4, hr⟩ := e_readBox (last := e - 1) (L := L) (F := F) (ri := ri) (az := az) (alo := alo) (ahi := ahi) (asl := asl) (aT := aT) s tok val (show 0 ≤ e by omega) p4 hn hT (by omega) (by omega)
    rcases hr with ⟨rfl, o, ho⟩ | ⟨rfl, r1, r2, lo, hi, sl, b1, b2, b3, b4, b5, b6, rfl, hg⟩
    · refine ⟨0, e1, s1, k1, v1, F1, ?_, Or.inl ⟨rfl, q1, q2, o, ho⟩⟩
      simp (disch := omega) only [f_X7_readOne, x1, Option.bind_some, gd_t, if_true, if_false, if_pos]
    · obtain ⟨e2, s2, k2, v2, x2, d1, d2, d3, d4, hs⟩ := e_semi (last := e1 - 1) (L := L) (rb := 1) (ri := ri) (az := az) (alo := lo) (ahi := hi) (asl := sl) (aT := aT) s1 k1 v1 (show 0 ≤ e1 by omega) r2 hn hT (by omega) (by omega)
      rcases hs with ⟨hk, o, ho⟩ | ⟨hk, w1, hg2, s3, e3, k3, v3, w3, x3, t3⟩
      · refine ⟨0, e2, s2, k2, v2, zup (zup (zup F 1 lo) 2 hi) 3 sl, ?_, Or.inl ⟨rfl, d3, d4, o, by rw [hg, ho]⟩⟩
        simp (disch := omega) only [f_X7_readOne, x1, x2, Option.bind_some, gd_t, if_true, if_false, if_pos, if_neg]
      · refine ⟨1, e3, s3, k3, v3, zup (zup (zup F 1 lo) 2 hi) 3 sl, ?_, Or.inr ⟨rfl, e2, w3, az, lo, hi, sl, aT, by omega, t3, zBoth_fbox h b1 b2 b3 b4 b5 b6, by rw [hg, hg2]⟩⟩
        simp (disch := omega) only [f_X7_readOne, x1, x2, x3, Option.bind_some, gd_t, if_true, if_false, if_pos, if_neg]
  · have e0 : f_X7_readOne rb n e s tok val T F = zev (st_X7_readOne n T) (e, s, tok, val, F) := by
      by_cases c1 : tok = 1
      · have c2 : ¬ rb = 0 := fun q => cA ⟨c1, q⟩
        simp (disch := omega) only [f_X7_readOne, gd_t, if_true, if_false, if_pos, if_neg]
      · simp (disch := omega) only [f_X7_readOne, gd_t, if_true, if_false, if_neg]
    rw [e0]
    rw [if_neg (show ¬ (L s.toNat = 98 ∧ rb = 0) from fun q => cA ⟨y4.mpr q.1, q.2⟩)] at tk
    by_cases cB : tok = 2 ∧ az < 7
    · obtain ⟨cB, cC⟩ := cB
      rw [if_pos (show L s.toNat = 116 ∧ az < 7 from ⟨y5.mp cB, cC⟩)] at tk
      have g0 := (c_tok hn hL ht u1 hl hl2 tk).2 rfl
      rw [g0, if_neg (show ¬ tok = 1 by omega)]
      obtain ⟨r, e1, s1, k1, v1, F1, x1, q1, q2, q3, q4, hr⟩ := e_readTime (last := e - 1) (L := L) (F := F) (rb := rb) (ri := ri) (az := az) (alo := alo) (ahi := ahi) (asl := asl) (aT := aT) s tok val (show 0 ≤ e by omega) p4 hn hT (by omega) (by omega) h (by omega)
      rcases hr with ⟨rfl, o, ho⟩ | ⟨rfl, r1, r2, T2, hF, hg⟩
      · refine ⟨0, e1, s1, k1, v1, F1, ?_, Or.inl ⟨rfl, q1, q2, o, ho⟩⟩
        apply zev_inr
        simp (disch := omega) only [st_X7_readOne, x1, Option.bind_some, gd_t, if_true, if_false, if_pos]
      · obtain ⟨e2, s2, k2, v2, x2, d1, d2, d3, d4, hs⟩ := e_semi (last := e1 - 1) (L := L) (rb := rb) (ri := ri) (az := az + 1) (alo := alo) (ahi := ahi) (asl := asl) (aT := T2) s1 k1 v1 (show 0 ≤ e1 by omega) r2 hn hT (by omega) (by omega)
        rcases hs with ⟨hk, o, ho⟩ | ⟨hk, w1, hg2, s3, e3, k3, v3, w3, x3, t3⟩
        · refine ⟨0, e2, s2, k2, v2, F1, ?_, Or.inl ⟨rfl, d3, d4, o, by rw [hg, ho]⟩⟩
          apply zev_inr
          simp (disch := omega) only [st_X7_readOne, x1, x2, Option.bind_some, gd_t, if_true, if_false, if_pos, if_neg]
        · refine ⟨1, e3, s3, k3, v3, F1, ?_, Or.inr ⟨rfl, e2, w3, az + 1, alo, ahi, asl, T2, by omega, t3, hF, by rw [hg, hg2]⟩⟩
          apply zev_inr
          simp (disch := omega) only [st_X7_readOne, x1, x2, x3, Option.bind_some, gd_t, if_true, if_false, if_pos, if_neg]
    · rw [if_neg (show ¬ (L s.toNat = 116 ∧ az < 7) from fun q => cB ⟨y5.mpr q.1, q.2⟩)] at tk
      refine ⟨0, e, s, tok, val, F, ?_, Or.inl ⟨rfl, by omega, p3, ?_⟩⟩
      · apply zev_inr
        by_cases c1 : tok = 2
        · have c2 : az = 7 := by omega
          have x1 : f_X7_readTime n e s tok val T F = some (0, e, s, tok, val, F) := by simp (disch := omega) only [f_X7_readTime, gd_t, if_true, if_false, if_pos]
          simp (disch := omega) only [st_X7_readOne, x1, Option.bind_some, gd_t, if_true, if_false, if_pos]
        · simp (disch := omega) only [st_X7_readOne, gd_t, if_true, if_false, if_neg]
      · exact ⟨_, (c_tok hn hL ht u1 hl hl2 tk).1 rfl⟩
theorem e_items {n mth macts : Int} {T L mNow mIsK : Nat → Int} (hn : n ≤ 100) (hT : ∀ k : Nat, (k : Int) < n → T k = L k ∧ 0 ≤ L k ∧ L k ≤ 255) : ∀ (m : Nat) (c s e tok val v last rb ri az alo ahi asl : Int) (aT F : Nat → Int), (n - c).toNat < m → zTk n L c s e tok val v → -1 ≤ last → last < c → (rb = 0 ∨ rb = 1) → 0 ≤ ri → ri ≤ c → zBoth F 0 az alo ahi asl aT → ∃ (r rw2 rb2 ri2 az2 alo2 ahi2 asl2 : Int) (aT2 : Nat → Int) (e2 s2 tok2 val2 : Int) (F2 : Nat → Int), zev (st_X5_read n L) (last, c, 0, rb, ri, az, alo, ahi, asl, aT) = some (r, rw2, rb2, ri2, az2, alo2, ahi2, asl2, aT2) ∧ ((r < 0 ∧ -200 ≤ r ∧ zev (st_X7_heard T) (ri, rb, mth, n, e, s, tok, val, macts, mNow, F, mIsK) = some (r, mth, n, e2, s2, tok2, val2, macts, mNow, F2, mIsK)) ∨ (0 ≤ r ∧ r ≤ 100 ∧ zBoth F2 0 az2 alo2 ahi2 asl2 aT2 ∧ ∃ R2 : Nat → Int, zev (st_X7_heard T) (ri, rb, mth, n, e, s, tok, val, macts, mNow, F, mIsK) = some (r, mth, 0, e2, s2, tok2, val2, 0, R2, F2, zup (zup mIsK 0 0) 1 0) ∧ ∀ k : Nat, k < 11 → R2 k = F2 k)) := by
  have hL := fun (k : Nat) (hk : (k : Int) < n) => (hT k hk).2
  intro m
  induction m with
  | zero => intro c s e tok val v last rb ri az alo ahi asl aT F h; omega
  | succ m ih =>
    intro c s e tok val v last rb ri az alo ahi asl aT F hm ht hl hl2 hb hr0 hrc h
    obtain ⟨m1, m2, m3, m4, m5, -⟩ := t_v ht
    obtain ⟨y1, y2, -⟩ := t_k ht
    have ht' := ht
    obtain ⟨p1, p2, p3, p4, -, -⟩ := ht'
    by_cases h0 : tok = 0
    · obtain ⟨R2, eR, hR⟩ := e_copyAll F mNow
      have hc := c_end (rb := rb) (ri := ri) (az := az) (alo := alo) (ahi := ahi) (asl := asl) (aT := aT) (rw := 0) hn hL ht (y2 h0) hl hl2 ⟨by omega, by omega⟩
      rw [if_pos rfl] at hc
      refine ⟨ri, 0, rb, ri, az, alo, ahi, asl, aT, e, s, tok, val, F, hc, Or.inr ⟨hr0, by omega, h, R2, ?_, hR⟩⟩
      apply zev_inr
      simp (disch := omega) only [st_X7_heard, eR, Option.bind_some, gd_t, if_true, if_false, if_pos]
    · obtain ⟨u1, u2⟩ := y1 h0
      obtain ⟨r, e2, s2, k2, v2, F2, x1, hr⟩ := e_one (ri := ri) hn hT ht h0 hl hl2 hb h
      rcases hr with ⟨rfl, q1, q2, o, ho⟩ | ⟨rfl, c2, w2, az2, alo2, ahi2, asl2, aT2, d1, t2, hF, hg⟩
      · obtain ⟨o1, o2, o3, o4, o5, o6, o7, o8⟩ := o
        refine ⟨-10 - s2, o1, o2, o3, o4, o5, o6, o7, o8, e2, s2, k2, v2, F2, ho, Or.inl ⟨by omega, by omega, ?_⟩⟩
        apply zev_inr
        by_cases h1 : tok = 1
        · simp (disch := omega) only [st_X7_heard, x1, Option.bind_some, gd_t, if_true, if_false, if_pos, if_neg]
        · simp (disch := omega) only [st_X7_heard, x1, Option.bind_some, gd_t, if_true, if_false, if_pos, if_neg]
      · have t2' := t2
        obtain ⟨j1, j2, j3, j4, -, -⟩ := t2'
        have hs : st_X7_heard T (ri, rb, mth, n, e, s, tok, val, macts, mNow, F, mIsK) = some (.inl (ri + 1, if tok = 1 then 1 else rb, mth, n, e2, s2, k2, v2, macts, mNow, F2, mIsK)) := by
          by_cases h1 : tok = 1
          · rw [if_pos h1]
            rcases hb with rfl | rfl
            · simp (disch := omega) only [st_X7_heard, x1, Option.bind_some, gd_t, if_true, if_false, if_pos, if_neg]
            · simp (disch := omega) only [st_X7_heard, x1, Option.bind_some, gd_t, if_true, if_false, if_pos, if_neg]
          · rw [if_neg h1]
            rcases hb with rfl | rfl
            · simp (disch := omega) only [st_X7_heard, x1, Option.bind_some, gd_t, if_true, if_false, if_pos, if_neg]
            · simp (disch := omega) only [st_X7_heard, x1, Option.bind_some, gd_t, if_true, if_false, if_pos, if_neg]
        rw [hg, zev_inl hs]
        exact ih c2 s2 e2 k2 v2 w2 (c2 - 1) (if tok = 1 then 1 else rb) (ri + 1) az2 alo2 ahi2 asl2 aT2 F2 (by omega) t2 (by omega) (by omega) (by
          by_cases h1 : tok = 1
          · rw [if_pos h1]; exact Or.inr rfl
          · rw [if_neg h1]; exact hb) (by omega) (by omega) hF
theorem sp_heard (az : Int) (alo : Int) (ahi : Int) (asl : Int) (aT : Nat → Int) (bT : Nat → Int) (pn : Int) (pz : Int) (pZ : Nat → Int) (pLo : Nat → Int) (pHi : Nat → Int) (pSl : Nat → Int) (pT : Nat → Nat → Int) (jZ : Nat → Int) (jLo : Nat → Int) (jHi : Nat → Int) (jSl : Nat → Int) (jT : Nat → Nat → Int) (kK : Nat → Int) (rn : Int) (rL : Nat → Int) (mmany : Int) (mst : Int) (mtok : Int) (mval : Int) (macts : Int) (mText : Nat → Int) (mNow : Nat → Int) (mFresh : Nat → Int) (mWas : Nat → Int) (mIsK : Nat → Int) (mKept : Nat → Int) (h : zRel az alo ahi asl aT pn pz pZ pLo pHi pSl pT jZ jLo jHi jSl jT kK rn rL mmany mText mNow mWas macts mIsK mKept) : ∃ (r : Int) (az' : Int) (alo' : Int) (ahi' : Int) (asl' : Int) (aT' : Nat → Int) (bz' : Int) (blo' : Int) (bhi' : Int) (bsl' : Int) (bT' : Nat → Int) (pz' : Int) (kK' : Nat → Int) (rn' : Int) (rw' : Int) (rb' : Int) (ri' : Int) (mth' : Int) (mmany' : Int) (mcur' : Int) (mst' : Int) (mtok' : Int) (mval' : Int) (macts' : Int) (mNow' : Nat → Int) (mFresh' : Nat → Int) (mIsK' : Nat → Int), f_X6_heard az alo ahi asl aT bT pz kK rn rL = some (r, az', alo', ahi', asl', aT', bz', blo', bhi', bsl', bT', pz', kK', rn', rw', rb', ri') ∧ f_X7_heard mmany mst mtok mval macts mText mNow mFresh mIsK = some (r, mth', mmany', mcur', mst', mtok', mval', macts', mNow', mFresh', mIsK') ∧ zRel az' alo' ahi' asl' aT' pn pz' pZ pLo pHi pSl pT jZ jLo jHi jSl jT kK' rn' rL mmany' mText mNow' mWas macts' mIsK' mKept := by
  obtain ⟨hN, ⟨p0, p9, z0, z10, rfl, hR⟩, hIm, r0, r100, rfl, hTx⟩ := h
  obtain ⟨s, e, tok, val, v, x1, t1⟩ := e_tnext (L := rL) mst mtok mval (show (0 : Int) ≤ 0 by omega) r0 r100 hTx
  have hF : zBoth (zup (zup (zup (zup mFresh 0 0) 1 100) 2 200) 3 2) 0 0 100 200 2 bT := by
    refine ⟨⟨by omega, by omega, by omega, by omega, by omega, by omega, by omega, by omega, fun k hk => by omega, fun k hk => by omega⟩, ?_, ?_, ?_, ?_, fun k hk => by omega⟩
    · rw [zup_n (by decide), zup_n (by decide), zup_n (by decide), zup_s (by decide)]
    · rw [zup_n (by decide), zup_n (by decide), zup_s (by decide)]
    · rw [zup_n (by decide), zup_s (by decide)]
    · rw [zup_s (by decide)]
  obtain ⟨r, rw2, rb2, ri2, az2, alo2, ahi2, asl2, aT2, e2, s2, k2, v2, F2, hc, hm⟩ := e_items (n := mmany) (mth := 0) (macts := macts) (mNow := mNow) (mIsK := mIsK) r100 hTx ((mmany - 0).toNat + 1) 0 s e tok val v (-1) 0 0 0 100 200 2 bT _ (by omega) t1 (by omega) (by omega) (Or.inl rfl) (by omega) (by omega) hF
  have er : f_X5_read mmany rL bT = some (r, rw2, rb2, ri2, az2, alo2, ahi2, asl2, aT2) := by
    unfold f_X5_read f_X1_reset
    rw [Option.bind_some]
    exact hc
  rcases hm with ⟨h1, h2, hm⟩ | ⟨h1, h2, hb, R2, hm, hR2⟩
  · refine ⟨r, az, alo, ahi, asl, aT, az2, alo2, ahi2, asl2, aT2, macts, kK, mmany, rw2, rb2, ri2, 0, mmany, e2, s2, k2, v2, macts, mNow, F2, mIsK, ?_, ?_, hN, ⟨p0, p9, z0, z10, rfl, hR⟩, hIm, r0, r100, rfl, hTx⟩
    · unfold f_X6_heard
      rw [er, Option.bind_some]
      simp (disch := omega) only [gd_t, if_true, if_false, if_pos]
    · unfold f_X7_heard
      rw [x1, Option.bind_some]
      exact hm
  · obtain ⟨T, e6, hT⟩ := e_take az alo ahi asl aT az2 alo2 ahi2 asl2 aT2
    refine ⟨r, az2, alo2, ahi2, asl2, T, az2, alo2, ahi2, asl2, aT2, 0, zup (zup kK 0 0) 1 0, 0, rw2, rb2, ri2, 0, 0, e2, s2, k2, v2, 0, R2, F2, zup (zup mIsK 0 0) 1 0, ?_, ?_, zBoth_of hb (fun j hj => by rw [Nat.zero_add]; exact hR2 j hj) hT, ⟨p0, p9, by omega, by omega, rfl, fun i hi => by omega⟩, fun i hi => ?_, by omega, by omega, rfl, fun k hk => by omega⟩
    · unfold f_X6_heard
      rw [er, Option.bind_some]
      have w1 : st_X6_heard (r, 0, az2, alo2, ahi2, asl2, T, az2, alo2, ahi2, asl2, aT2, 0, kK, mmany, rw2, rb2, ri2) = some (.inl (r, 0 + 1, az2, alo2, ahi2, asl2, T, az2, alo2, ahi2, asl2, aT2, 0, zup kK 0 0, mmany, rw2, rb2, ri2)) := by simp (disch := omega) only [st_X6_heard, gd_t, if_true, if_false, if_pos]
      have w2 : st_X6_heard (r, 0 + 1, az2, alo2, ahi2, asl2, T, az2, alo2, ahi2, asl2, aT2, 0, zup kK 0 0, mmany, rw2, rb2, ri2) = some (.inl (r, 0 + 1 + 1, az2, alo2, ahi2, asl2, T, az2, alo2, ahi2, asl2, aT2, 0, zup (zup kK 0 0) (0 + 1) 0, mmany, rw2, rb2, ri2)) := by simp (disch := omega) only [st_X6_heard, gd_t, if_true, if_false, if_pos]
      have w3 : st_X6_heard (r, 0 + 1 + 1, az2, alo2, ahi2, asl2, T, az2, alo2, ahi2, asl2, aT2, 0, zup (zup kK 0 0) (0 + 1) 0, mmany, rw2, rb2, ri2) = some (.inr (r, az2, alo2, ahi2, asl2, T, az2, alo2, ahi2, asl2, aT2, 0, zup (zup kK 0 0) (0 + 1) 0, 0, rw2, rb2, ri2)) := by simp (disch := omega) only [st_X6_heard, f_X5_wipe, Option.bind_some, gd_t, if_true, if_false, if_neg]
      dsimp only
      rw [gd_t ⟨by omega, by omega⟩, if_neg (by omega), e6, Option.bind_some]
      dsimp only [f_X3_forget]
      rw [Option.bind_some, zev_inl w1, zev_inl w2, zev_inr w3]
      rfl
    · unfold f_X7_heard
      rw [x1, Option.bind_some]
      exact hm
    · have k0 : ∀ X : Nat → Int, zup (zup X 0 0) 1 0 i = 0 := by
        intro X
        rcases (show i = 0 ∨ i = 1 by omega) with rfl | rfl
        · rfl
        · rfl
      rw [k0, k0]
      exact ⟨rfl, Or.inl rfl⟩
