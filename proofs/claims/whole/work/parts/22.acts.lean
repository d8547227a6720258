/-! PURE: what is undone, images -/
theorem zBoth_of {R R2 : Nat → Int} {o o2 : Nat} {z lo hi sl : Int} {T T2 : Nat → Int} (h : zBoth R o z lo hi sl T) (hR : ∀ j : Nat, j < 11 → R2 (o2 + j) = R (o + j)) (hT : ∀ k : Nat, k < 7 → T2 k = T k) : zBoth R2 o2 z lo hi sl T2 := by
  obtain ⟨⟨a1, a2, a3, a4, a5, a6, a7, a8, a9, a10⟩, b1, b2, b3, b4, b5⟩ := h
  refine ⟨⟨a1, a2, a3, a4, a5, a6, a7, a8, fun k hk => ?_, fun k hk => ?_⟩, ?_, ?_, ?_, ?_, fun k hk => ?_⟩
  · rw [hT k (by omega)]; exact a9 k hk
  · rw [hT k (by omega), hT (k + 1) (by omega)]; exact a10 k hk
  · rw [← b1]; exact hR 0 (by omega)
  · rw [← b2]; exact hR 1 (by omega)
  · rw [← b3]; exact hR 2 (by omega)
  · rw [← b4]; exact hR 3 (by omega)
  · rw [hT k (by omega), ← b5 k hk, Nat.add_assoc, Nat.add_assoc]
    exact hR (4 + k) (by omega)
theorem e_push (pn pz : Int) (pZ pLo pHi pSl : Nat → Int) (pT : Nat → Nat → Int) (az alo ahi asl : Int) (aT : Nat → Int) (h0 : 0 ≤ pn) (h9 : pn ≤ 9) (g0 : 0 ≤ pz) (g10 : pz ≤ 10) : ∃ T, f_X3_push pn pz pZ pLo pHi pSl pT az alo ahi asl aT = some ((pn + 1) % 10, min (pz + 1) 10, zup pZ pn az, zup pLo pn alo, zup pHi pn ahi, zup pSl pn asl, zup pT pn T) ∧ ∀ k : Nat, k < 7 → T k = aT k := by
  obtain ⟨T, e, hT⟩ := e_take (pZ (Int.toNat pn)) (pLo (Int.toNat pn)) (pHi (Int.toNat pn)) (pSl (Int.toNat pn)) (pT (Int.toNat pn)) az alo ahi asl aT
  refine ⟨T, ?_, hT⟩
  unfold f_X3_push
  rw [e, Option.bind_some]
  by_cases h : pn + 1 < 10
  · simp (disch := omega) only [gd_t, if_pos]
    rw [show (pn + 1) % 10 = pn + 1 by omega]
  · simp (disch := omega) only [gd_t, if_neg]
    rw [show (pn + 1) % 10 = 0 by omega]
theorem e_pull0 (pn pz : Int) (pZ pLo pHi pSl : Nat → Int) (pT : Nat → Nat → Int) (az alo ahi asl : Int) (aT : Nat → Int) (g0 : pz = 0) : f_X3_pull pn pz pZ pLo pHi pSl pT az alo ahi asl aT = some (0, pn, pz, az, alo, ahi, asl, aT) := by
  simp (disch := omega) only [f_X3_pull, gd_t, if_pos]
theorem e_pull (pn pz : Int) (pZ pLo pHi pSl : Nat → Int) (pT : Nat → Nat → Int) (az alo ahi asl : Int) (aT : Nat → Int) (h0 : 0 ≤ pn) (h9 : pn ≤ 9) (g0 : 0 < pz) (g10 : pz ≤ 10) : ∃ T, f_X3_pull pn pz pZ pLo pHi pSl pT az alo ahi asl aT = some (1, (pn - 1) % 10, pz - 1, pZ ((pn - 1) % 10).toNat, pLo ((pn - 1) % 10).toNat, pHi ((pn - 1) % 10).toNat, pSl ((pn - 1) % 10).toNat, T) ∧ ∀ k : Nat, k < 7 → T k = pT ((pn - 1) % 10).toNat k := by
  by_cases h : pn ≤ 0
  · obtain ⟨T, e, hT⟩ := e_take az alo ahi asl aT (pZ (Int.toNat 9)) (pLo (Int.toNat 9)) (pHi (Int.toNat 9)) (pSl (Int.toNat 9)) (pT (Int.toNat 9))
    have e9 : (pn - 1) % 10 = 9 := by omega
    rw [e9]
    refine ⟨T, ?_, hT⟩
    unfold f_X3_pull
    rw [e]
    simp (disch := omega) only [gd_t, if_pos, if_neg, Option.bind_some]
  · obtain ⟨T, e, hT⟩ := e_take az alo ahi asl aT (pZ (Int.toNat (pn - 1))) (pLo (Int.toNat (pn - 1))) (pHi (Int.toNat (pn - 1))) (pSl (Int.toNat (pn - 1))) (pT (Int.toNat (pn - 1)))
    have e9 : (pn - 1) % 10 = pn - 1 := by omega
    rw [e9]
    refine ⟨T, ?_, hT⟩
    unfold f_X3_pull
    rw [e]
    simp (disch := omega) only [gd_t, if_neg, Option.bind_some]
theorem e_keepRow (acts : Int) (now W : Nat → Int) (h0 : 0 ≤ acts) (h9 : acts ≤ 9) : ∃ W2, zev (st_X7_keepAct now) (1, 0, acts, W) = some (acts + 1, W2) ∧ (∀ j : Nat, (j : Int) < 11 * acts → W2 j = W j) ∧ ∀ j : Nat, j < 11 → W2 ((11 * acts).toNat + j) = now j := by
  obtain ⟨r, e, W2, h1, h2, h3⟩ := zwhile (st := st_X7_keepAct now) (fun v => v.1 = 1 ∧ 0 ≤ v.2.1 ∧ v.2.1 ≤ 11 ∧ v.2.2.1 = acts ∧ (∀ j : Nat, (j : Int) < 11 * acts → v.2.2.2 j = W j) ∧ ∀ j : Nat, (j : Int) < v.2.1 → v.2.2.2 ((11 * acts).toNat + j) = now j) (fun v => (11 - v.2.1).toNat) (fun r => ∃ W2, r = (acts + 1, W2) ∧ (∀ j : Nat, (j : Int) < 11 * acts → W2 j = W j) ∧ ∀ j : Nat, j < 11 → W2 ((11 * acts).toNat + j) = now j) (by
    rintro ⟨i, x, a, S⟩ ⟨g1, g2, g3, g4, g5, g6⟩
    dsimp only at g1 g2 g3 g4 g5 g6
    subst g1
    subst g4
    by_cases h : x < 11
    · refine Or.inr ⟨(1, x + 1, a, zup S (11 * a + x) (now x.toNat)), by simp (disch := omega) only [st_X7_keepAct, gd_t, if_pos], ⟨rfl, by show 0 ≤ x + 1; omega, by show x + 1 ≤ 11; omega, rfl, fun j hj => ?_, fun j hj => ?_⟩, by show (11 - (x + 1)).toNat < (11 - x).toNat; omega⟩
      · show zup S (11 * a + x) _ j = W j
        rw [zup_n (by omega)]; exact g5 j hj
      · have hj : (j : Int) < x + 1 := hj
        show zup S (11 * a + x) _ ((11 * a).toNat + j) = now j
        by_cases e2 : j = x.toNat
        · rw [zup_s (by omega), e2]
        · rw [zup_n (by omega)]; exact g6 j (by omega)
    · exact Or.inl ⟨(a + 1, S), by simp (disch := omega) only [st_X7_keepAct, gd_t, if_neg], S, rfl, g5, fun j hj => g6 j (by omega)⟩) (1, 0, acts, W) ⟨rfl, by show (0 : Int) ≤ 0; omega, by show (0 : Int) ≤ 11; omega, rfl, fun j hj => rfl, fun j hj => by exfalso; have : (j : Int) < 0 := hj; omega⟩
  exact ⟨W2, by rw [e, h1], h2, h3⟩
theorem e_keepShift (now W : Nat → Int) : ∃ W2, (∀ j : Nat, j < 99 → W2 j = W (j + 11)) ∧ zev (st_X7_keepAct now) (0, 0, 10, W) = zev (st_X7_keepAct now) (1, 0, 9, W2) := by
  obtain ⟨v2, ⟨W2, h1, h2⟩, e⟩ := zgoto (st := st_X7_keepAct now) (fun v => v.1 = 0 ∧ 0 ≤ v.2.1 ∧ v.2.1 ≤ 99 ∧ v.2.2.1 = 10 ∧ (∀ j : Nat, (j : Int) < v.2.1 → v.2.2.2 j = W (j + 11)) ∧ ∀ j : Nat, v.2.1 ≤ (j : Int) → v.2.2.2 j = W j) (fun v => ∃ W2, v = (1, 0, 9, W2) ∧ ∀ j : Nat, j < 99 → W2 j = W (j + 11)) (fun v => (99 - v.2.1).toNat) (by
    rintro ⟨i, x, a, S⟩ ⟨g1, g2, g3, g4, g5, g6⟩
    dsimp only at g1 g2 g3 g4 g5 g6
    subst g1
    subst g4
    by_cases h : x < 99
    · refine ⟨(0, x + 1, 10, zup S x (S (x + 11).toNat)), by simp (disch := omega) only [st_X7_keepAct, gd_t, if_pos], Or.inr ⟨⟨rfl, by show 0 ≤ x + 1; omega, by show x + 1 ≤ 99; omega, rfl, fun j hj => ?_, fun j hj => ?_⟩, by show (99 - (x + 1)).toNat < (99 - x).toNat; omega⟩⟩
      · have hj : (j : Int) < x + 1 := hj
        show zup S x _ j = W (j + 11)
        by_cases e2 : j = x.toNat
        · rw [zup_s e2, show (x + 11).toNat = j + 11 by omega]; exact g6 (j + 11) (by omega)
        · rw [zup_n e2]; exact g5 j (by omega)
      · have hj : x + 1 ≤ (j : Int) := hj
        show zup S x _ j = W j
        rw [zup_n (by omega)]; exact g6 j (by omega)
    · exact ⟨(1, 0, 10 - 1, S), by simp (disch := omega) only [st_X7_keepAct, gd_t, if_neg], Or.inl ⟨S, rfl, fun j hj => g5 j (by omega)⟩⟩) (0, 0, 10, W) ⟨rfl, by show (0 : Int) ≤ 0; omega, by show (0 : Int) ≤ 99; omega, rfl, fun j hj => by exfalso; have : (j : Int) < 0 := hj; omega, fun j hj => rfl⟩
  subst h1
  exact ⟨W2, h2, e⟩
theorem e_keepAct (acts : Int) (now W : Nat → Int) (h0 : 0 ≤ acts) (h10 : acts ≤ 10) : ∃ W2, f_X7_keepAct acts now W = some (min (acts + 1) 10, W2) ∧ (acts < 10 → (∀ j : Nat, (j : Int) < 11 * acts → W2 j = W j) ∧ ∀ j : Nat, j < 11 → W2 ((11 * acts).toNat + j) = now j) ∧ (acts = 10 → (∀ j : Nat, j < 99 → W2 j = W (j + 11)) ∧ ∀ j : Nat, j < 11 → W2 (99 + j) = now j) := by
  by_cases h : acts = 10
  · subst h
    obtain ⟨W1, h1, e1⟩ := e_keepShift now W
    obtain ⟨W2, e2, h2, h3⟩ := e_keepRow 9 now W1 (by omega) (by omega)
    refine ⟨W2, ?_, fun h => absurd h (by decide), fun _ => ⟨fun j hj => ?_, fun j hj => h3 j hj⟩⟩
    · unfold f_X7_keepAct
      simp (disch := omega) only [gd_t, if_pos]
      rw [e1, e2]
      rfl
    · rw [h2 j (by omega)]; exact h1 j hj
  · obtain ⟨W2, e2, h2, h3⟩ := e_keepRow acts now W h0 (by omega)
    refine ⟨W2, ?_, fun _ => ⟨h2, h3⟩, fun q => absurd q h⟩
    unfold f_X7_keepAct
    simp (disch := omega) only [gd_t, if_neg]
    rw [e2, Int.min_eq_left (by omega)]
theorem e_mundo (acts : Int) (now W : Nat → Int) (h0 : 0 < acts) (h10 : acts ≤ 10) : ∃ R2, f_X7_undo acts now W = some (acts - 1, 0, acts - 1, R2) ∧ ∀ j : Nat, j < 11 → R2 j = W ((11 * (acts - 1)).toNat + j) := by
  have e0 : f_X7_undo acts now W = zev (st_X7_undo W) (0, 0, acts - 1, now) := by simp (disch := omega) only [f_X7_undo, gd_t, if_neg]
  rw [e0]
  obtain ⟨r, e, R2, h1, h2⟩ := zwhile (st := st_X7_undo W) (fun v => 0 ≤ v.1 ∧ v.1 ≤ 11 ∧ v.2.1 = 0 ∧ v.2.2.1 = acts - 1 ∧ ∀ j : Nat, (j : Int) < v.1 → v.2.2.2 j = W ((11 * (acts - 1)).toNat + j)) (fun v => (11 - v.1).toNat) (fun r => ∃ R2, r = (acts - 1, 0, acts - 1, R2) ∧ ∀ j : Nat, j < 11 → R2 j = W ((11 * (acts - 1)).toNat + j)) (by
    rintro ⟨x, t, a, S⟩ ⟨g1, g2, g3, g4, g5⟩
    dsimp only at g1 g2 g3 g4 g5
    subst g3
    subst g4
    by_cases h : x < 11
    · refine Or.inr ⟨(x + 1, 0, acts - 1, zup S x (W (11 * (acts - 1) + x).toNat)), by simp (disch := omega) only [st_X7_undo, gd_t, if_pos], ⟨by show 0 ≤ x + 1; omega, by show x + 1 ≤ 11; omega, rfl, rfl, fun j hj => ?_⟩, by show (11 - (x + 1)).toNat < (11 - x).toNat; omega⟩
      have hj : (j : Int) < x + 1 := hj
      show zup S x _ j = _
      by_cases e2 : j = x.toNat
      · rw [zup_s e2]
        congr 1
        omega
      · rw [zup_n e2]; exact g5 j (by omega)
    · exact Or.inl ⟨(acts - 1, 0, acts - 1, S), by simp (disch := omega) only [st_X7_undo, gd_t, if_neg], S, rfl, fun j hj => g5 j (by omega)⟩) (0, 0, acts - 1, now) ⟨by show (0 : Int) ≤ 0; omega, by show (0 : Int) ≤ 11; omega, rfl, rfl, fun j hj => by exfalso; have : (j : Int) < 0 := hj; omega⟩
  exact ⟨R2, by rw [e, h1], h2⟩
theorem e_mkeep (p1 : Int) (now isK kp : Nat → Int) (h0 : 0 ≤ p1) (h1 : p1 ≤ 1) : ∃ K2, f_X7_keep p1 now isK kp = some (now 0, 0, zup isK p1 1, K2) ∧ (∀ j : Nat, j < 11 → K2 (11 * p1.toNat + j) = now j) ∧ ∀ i j : Nat, i < 2 → i ≠ p1.toNat → j < 11 → K2 (11 * i + j) = kp (11 * i + j) := by
  have e0 : f_X7_keep p1 now isK kp = zev (st_X7_keep p1 now) (0, 0, isK, kp) := by
    unfold f_X7_keep
    rw [e_in ⟨by omega, by omega⟩ ⟨by omega, by omega⟩ ⟨by omega, by omega⟩, if_pos ⟨h0, h1⟩, Option.bind_some]
    simp (disch := omega) only [gd_t, if_neg]
  rw [e0]
  obtain ⟨r, e, K2, g1, g2, g3⟩ := zwhile (st := st_X7_keep p1 now) (fun v => 0 ≤ v.1 ∧ v.1 ≤ 11 ∧ v.2.1 = 0 ∧ v.2.2.1 = isK ∧ (∀ j : Nat, (j : Int) < v.1 → v.2.2.2 (11 * p1.toNat + j) = now j) ∧ ∀ i j : Nat, i < 2 → i ≠ p1.toNat → j < 11 → v.2.2.2 (11 * i + j) = kp (11 * i + j)) (fun v => (11 - v.1).toNat) (fun r => ∃ K2, r = (now 0, 0, zup isK p1 1, K2) ∧ (∀ j : Nat, j < 11 → K2 (11 * p1.toNat + j) = now j) ∧ ∀ i j : Nat, i < 2 → i ≠ p1.toNat → j < 11 → K2 (11 * i + j) = kp (11 * i + j)) (by
    rintro ⟨x, t, a, S⟩ ⟨g1, g2, g3, g4, g5, g6⟩
    dsimp only at g1 g2 g3 g4 g5 g6
    subst g3
    subst g4
    by_cases h : x < 11
    · refine Or.inr ⟨(x + 1, 0, a, zup S (11 * p1 + x) (now x.toNat)), by simp (disch := omega) only [st_X7_keep, gd_t, if_pos], ⟨by show 0 ≤ x + 1; omega, by show x + 1 ≤ 11; omega, rfl, rfl, fun j hj => ?_, fun i j hi hij hj => ?_⟩, by show (11 - (x + 1)).toNat < (11 - x).toNat; omega⟩
      · have hj : (j : Int) < x + 1 := hj
        show zup S (11 * p1 + x) _ (11 * p1.toNat + j) = _
        by_cases e2 : j = x.toNat
        · rw [zup_s (by omega), e2]
        · rw [zup_n (by omega)]; exact g5 j (by omega)
      · show zup S (11 * p1 + x) _ (11 * i + j) = _
        rw [zup_n (by omega)]; exact g6 i j hi hij hj
    · exact Or.inl ⟨(now 0, 0, zup a p1 1, S), by simp (disch := omega) only [st_X7_keep, gd_t, if_neg], S, rfl, fun j hj => g5 j (by omega), g6⟩) (0, 0, isK, kp) ⟨by show (0 : Int) ≤ 0; omega, by show (0 : Int) ≤ 11; omega, rfl, rfl, fun j hj => by exfalso; have : (j : Int) < 0 := hj; omega, fun i j _ _ _ => rfl⟩
  exact ⟨K2, by rw [e, g1], g2, g3⟩
theorem e_mback (p1 acts : Int) (now isK kp : Nat → Int) (h0 : 0 ≤ p1) (h1 : p1 ≤ 1) (hk : isK p1.toNat = 1) : ∃ R2, f_X7_back p1 acts now isK kp = some (R2 0, 0, 0, R2) ∧ ∀ j : Nat, j < 11 → R2 j = kp (11 * p1.toNat + j) := by
  have e0 : f_X7_back p1 acts now isK kp = zev (st_X7_back p1 kp) (0, 0, acts, now) := by
    unfold f_X7_back
    rw [e_in ⟨by omega, by omega⟩ ⟨by omega, by omega⟩ ⟨by omega, by omega⟩, if_pos ⟨h0, h1⟩, Option.bind_some]
    simp (disch := omega) only [gd_t, if_neg]
  rw [e0]
  obtain ⟨r, e, R2, g1, g2⟩ := zwhile (st := st_X7_back p1 kp) (fun v => 0 ≤ v.1 ∧ v.1 ≤ 11 ∧ v.2.1 = 0 ∧ ∀ j : Nat, (j : Int) < v.1 → v.2.2.2 j = kp (11 * p1.toNat + j)) (fun v => (11 - v.1).toNat) (fun r => ∃ R2 : Nat → Int, r = (R2 0, 0, 0, R2) ∧ ∀ j : Nat, j < 11 → R2 j = kp (11 * p1.toNat + j)) (by
    rintro ⟨x, t, a, S⟩ ⟨g1, g2, g3, g5⟩
    dsimp only at g1 g2 g3 g5
    subst g3
    by_cases h : x < 11
    · refine Or.inr ⟨(x + 1, 0, a, zup S x (kp (11 * p1 + x).toNat)), by simp (disch := omega) only [st_X7_back, gd_t, if_pos], ⟨by show 0 ≤ x + 1; omega, by show x + 1 ≤ 11; omega, rfl, fun j hj => ?_⟩, by show (11 - (x + 1)).toNat < (11 - x).toNat; omega⟩
      have hj : (j : Int) < x + 1 := hj
      show zup S x _ j = _
      by_cases e2 : j = x.toNat
      · rw [zup_s e2]
        congr 1
        omega
      · rw [zup_n e2]; exact g5 j (by omega)
    · exact Or.inl ⟨(S 0, 0, 0, S), by simp (disch := omega) only [st_X7_back, gd_t, if_neg], S, rfl, fun j hj => g5 j (by omega)⟩) (0, 0, acts, now) ⟨by show (0 : Int) ≤ 0; omega, by show (0 : Int) ≤ 11; omega, rfl, fun j hj => by exfalso; have : (j : Int) < 0 := hj; omega⟩
  exact ⟨R2, by rw [e, g1], g2⟩
