/-! PURE: what the machines do at one arrival -/
def bx (LU LL HU HL : Nat → Int) (i : Nat) : zB := (LU i, LL i, HU i, HL i)
def pre (N : Nat → Int) : Nat → List Int
  | 0 => []
  | a + 1 => pre N a ++ [N a]
theorem pre_len (N : Nat → Int) : ∀ a : Nat, (pre N a).length = a := by
  intro a
  induction a with
  | zero => rfl
  | succ a ih => simp only [pre, List.length_append, List.length_cons, List.length_nil, ih]
theorem pre_nth (N : Nat → Int) : ∀ (a i : Nat), i < a → nth (pre N a) i = N i := by
  intro a
  induction a with
  | zero => intro i h; omega
  | succ a ih =>
    intro i h
    by_cases e : i = a
    · subst e
      have := nth_e (l := pre N i) (n := N i)
      rw [pre_len] at this
      exact this
    · have := nth_l (l := pre N a) (n := N a) (i := i) (by rw [pre_len]; omega)
      exact this.trans (ih i (by omega))
theorem pre_congr {N N2 : Nat → Int} : ∀ a : Nat, (∀ i : Nat, i < a → N i = N2 i) → pre N a = pre N2 a := by
  intro a
  induction a with
  | zero => intro _; rfl
  | succ a ih =>
    intro h
    simp only [pre]
    rw [ih (fun i hi => h i (by omega)), h a (by omega)]
theorem pre_tN (N : Nat → Int) {a : Nat} (h : 0 < a) : tN (pre N a) = N (a - 1) := by
  unfold tN
  rw [pre_len]
  exact pre_nth N a (a - 1) (by omega)
theorem zm_bd {x y : Int} (h1 : -4000 ≤ x) (h2 : x ≤ 4000) (h3 : 0 ≤ y) (h4 : y ≤ 400) : -1600000 ≤ x * y ∧ x * y ≤ 1600000 := by
  have a1 : x * y ≤ 4000 * y := Int.mul_le_mul_of_nonneg_right h2 h3
  have a2 : -4000 * y ≤ x * y := Int.mul_le_mul_of_nonneg_right h1 h3
  omega
theorem zm_R {x y : Int} (h1 : -4000 ≤ x) (h2 : x ≤ 4000) (h3 : 0 ≤ y) (h4 : y ≤ 400) : zR (x * y) := by
  have := zm_bd h1 h2 h3 h4
  exact ⟨by omega, by omega⟩
theorem e_cut {b : zB} {ap s tr : Int} (hb : bok b) (hs : 0 ≤ s) (ha : 0 ≤ ap) (hz : ap + s ≤ 4000) (ht : 0 < tr) (ht4 : tr ≤ 400) : ∃ r, f_X4_cut ap s tr b.1 b.2.1 b.2.2.1 b.2.2.2 = some (r, (bcut b ap s tr).1, (bcut b ap s tr).2.1, (bcut b ap s tr).2.2.1, (bcut b ap s tr).2.2.2) ∧ ((r = 0 ∧ bcut b ap s tr = b) ∨ (r = 1 ∧ (¬ (ap - s) * b.2.1 ≤ b.1 * tr ∨ (ap + s) * b.2.2.2 < b.2.2.1 * tr))) := by
  obtain ⟨a1, a2, a3, a4, a5, a6, a7, a8⟩ := hb
  have r1 : zR ((ap - s) * b.2.1) := zm_R (by omega) (by omega) (by omega) a4
  have r2 : zR (b.1 * tr) := zm_R (by omega) (by omega) (by omega) ht4
  have r3 : zR ((ap + s) * b.2.2.2) := zm_R (by omega) (by omega) (by omega) a8
  have r4 : zR (b.2.2.1 * tr) := zm_R (by omega) (by omega) (by omega) ht4
  unfold f_X4_cut bcut
  rw [gd_t ⟨r1, r2⟩, gd_t ⟨r3, r4⟩]
  by_cases h1 : (ap - s) * b.2.1 ≤ b.1 * tr
  · by_cases h2 : (ap + s) * b.2.2.2 < b.2.2.1 * tr
    · simp only [if_pos h1, if_pos h2]
      exact ⟨1, rfl, Or.inr ⟨rfl, Or.inr h2⟩⟩
    · simp only [if_pos h1, if_neg h2]
      exact ⟨0, rfl, Or.inl ⟨rfl, trivial⟩⟩
  · by_cases h2 : (ap + s) * b.2.2.2 < b.2.2.1 * tr
    · simp only [if_neg h1, if_pos h2, gd_t (And.intro r3 r4)]
      exact ⟨1, rfl, Or.inr ⟨rfl, Or.inl h1⟩⟩
    · simp only [if_neg h1, if_neg h2, gd_t (And.intro r3 r4)]
      exact ⟨1, rfl, Or.inr ⟨rfl, Or.inl h1⟩⟩
theorem e_isEmpty {b : zB} (hb : bok b) : f_X4_isEmpty b.1 b.2.1 b.2.2.1 b.2.2.2 = some (if bemp b = true then 1 else 0) := by
  obtain ⟨a1, a2, a3, a4, a5, a6, a7, a8⟩ := hb
  have r1 : zR (b.1 * b.2.2.2) := zm_R (by omega) (by omega) (by omega) a8
  have r2 : zR (b.2.2.1 * b.2.1) := zm_R (by omega) (by omega) (by omega) a4
  unfold f_X4_isEmpty bemp
  rw [gd_t ⟨r1, r2⟩]
  by_cases h : b.1 * b.2.2.2 ≤ b.2.2.1 * b.2.1
  · rw [if_pos h, if_neg (by rw [decide_eq_true_eq]; omega)]
  · rw [if_neg h, if_pos (by rw [decide_eq_true_eq]; omega)]
/-- the times of the row at hand -/
theorem e_fits {k : Nat} {t nT nN nLU nLL nHU nHL : Nat → Int} {s lo hi : Int} {a : Nat} (C : zCt k t s lo hi) (ha : 0 < a) (hak : a < k) (hT : ∀ i : Nat, i < k → nT i = t i) (h : tI t s lo hi (pre nN a) (bx nLU nLL nHU nHL (a - 1))) (h1 : nN (a - 1) < nN a) (h2 : nN a ≤ bG (bx nLU nLL nHU nHL (a - 1)) (t a - t 0) s) : ∃ (r : Int) (LU LL HU HL : Nat → Int), f_X2_fits (a : Int) s nT nN nLU nLL nHU nHL = some (r, LU, LL, HU, HL) ∧ (∀ i : Nat, i ≠ a → bx LU LL HU HL i = bx nLU nLL nHU nHL i) ∧ ((r = 1 ∧ bemp (tb t s (pre nN a) (bx nLU nLL nHU nHL (a - 1)) (nN a)) = false ∧ bx LU LL HU HL a = tb t s (pre nN a) (bx nLU nLL nHU nHL (a - 1)) (nN a)) ∨ (r = 0 ∧ bemp (tb t s (pre nN a) (bx nLU nLL nHU nHL (a - 1)) (nN a)) = true)) := by
  have hlen := pre_len nN a
  have ht := pre_tN nN ha
  obtain ⟨hn, hA, hTr⟩ := tI_bd (n := nN a) C h (by omega) (by omega) (by rw [hlen]; exact h2)
  rw [hlen] at hA hTr
  have hb := h.2.2.2.2.1
  have he0 := h.2.2.2.2.2.1
  have hs : 0 ≤ s := C.2.1
  have hk7 : k ≤ 7 := C.1
  have ew : pre nN a ++ [nN a] = pre nN (a + 1) := rfl
  rw [ew] at hTr
  have etb : tb t s (pre nN a) (bx nLU nLL nHU nHL (a - 1)) (nN a) = bfold t s (pre nN (a + 1)) a a (bx nLU nLL nHU nHL (a - 1)) := by
    unfold tb
    rw [hlen, ew]
  rw [etb]
  have key := fun j hj => bfold_ok hb hs hA hTr j hj
  have e1 : Int.toNat ((a : Int) - 1) = a - 1 := by omega
  have e0 : f_X2_fits (a : Int) s nT nN nLU nLL nHU nHL = zev (st_X2_fits (a : Int) s nT nN) (0, zup nLU a (nLU (a - 1)), zup nLL a (nLL (a - 1)), zup nHU a (nHU (a - 1)), zup nHL a (nHL (a - 1))) := by
    simp (disch := omega) only [f_X2_fits, f_X4_take, gd_t, Option.bind_some, e1]
  rw [e0]
  obtain ⟨r, e, r0, LU, LL, HU, HL, g1, g2, g3⟩ := zwhile (st := st_X2_fits (a : Int) s nT nN) (fun v => ∃ j : Nat, v.1 = (j : Int) ∧ j ≤ a ∧ bx v.2.1 v.2.2.1 v.2.2.2.1 v.2.2.2.2 a = bfold t s (pre nN (a + 1)) a j (bx nLU nLL nHU nHL (a - 1)) ∧ bemp (bfold t s (pre nN (a + 1)) a j (bx nLU nLL nHU nHL (a - 1))) = false ∧ ∀ i : Nat, i ≠ a → bx v.2.1 v.2.2.1 v.2.2.2.1 v.2.2.2.2 i = bx nLU nLL nHU nHL i) (fun v => ((a : Int) - v.1).toNat) (fun r => ∃ (r0 : Int) (LU LL HU HL : Nat → Int), r = (r0, LU, LL, HU, HL) ∧ (∀ i : Nat, i ≠ a → bx LU LL HU HL i = bx nLU nLL nHU nHL i) ∧ ((r0 = 1 ∧ bemp (bfold t s (pre nN (a + 1)) a a (bx nLU nLL nHU nHL (a - 1))) = false ∧ bx LU LL HU HL a = bfold t s (pre nN (a + 1)) a a (bx nLU nLL nHU nHL (a - 1))) ∨ (r0 = 0 ∧ bemp (bfold t s (pre nN (a + 1)) a a (bx nLU nLL nHU nHL (a - 1))) = true))) (by
    rintro ⟨x, LU, LL, HU, HL⟩ ⟨j, g1, g2, g3, g4, g5⟩
    dsimp only at g1 g3 g5
    subst g1
    by_cases hj : j < a
    · obtain ⟨i1, i2, i3⟩ := key j (by omega)
      have hAj := hA j hj
      have hTj := hTr j hj
      rw [pre_nth nN (a + 1) a (by omega), pre_nth nN (a + 1) j (by omega)] at hTj
      obtain ⟨r, ec, -⟩ := e_cut (ap := t a - t j) (s := s) (tr := nN a - nN j) i1 hs (by omega) (by omega) hTj.1 hTj.2
      obtain ⟨k1, k2, k3⟩ := key (j + 1) (by omega)
      have ef : bfold t s (pre nN (a + 1)) a (j + 1) (bx nLU nLL nHU nHL (a - 1)) = bcut (bfold t s (pre nN (a + 1)) a j (bx nLU nLL nHU nHL (a - 1))) (t a - t j) s (nN a - nN j) := by
        show bcut _ _ _ (nth (pre nN (a + 1)) a - nth (pre nN (a + 1)) j) = _
        rw [pre_nth nN (a + 1) a (by omega), pre_nth nN (a + 1) j (by omega)]
      have hj1 := k1
      rw [ef] at k1
      have ee := e_isEmpty k1
      rw [← g3] at ec
      dsimp only [bx] at ec
      generalize hB : bcut (bx LU LL HU HL a) (t a - t j) s (nN a - nN j) = B at ec
      rw [show bx LU LL HU HL a = (LU a, LL a, HU a, HL a) from rfl] at hB
      rw [hB] at ec
      have hB2 : bcut (bfold t s (pre nN (a + 1)) a j (bx nLU nLL nHU nHL (a - 1))) (t a - t j) s (nN a - nN j) = B := by rw [← g3]; exact hB
      rw [hB2] at ee ef
      have hab : bx (zup LU a B.1) (zup LL a B.2.1) (zup HU a B.2.2.1) (zup HL a B.2.2.2) a = B := by
        unfold bx
        rw [zup_s (by omega), zup_s (by omega), zup_s (by omega), zup_s (by omega)]
      have hoth : ∀ i : Nat, i ≠ a → bx (zup LU a B.1) (zup LL a B.2.1) (zup HU a B.2.2.1) (zup HL a B.2.2.2) i = bx nLU nLL nHU nHL i := by
        intro i hi
        rw [← g5 i hi]
        unfold bx
        rw [zup_n (by omega), zup_n (by omega), zup_n (by omega), zup_n (by omega)]
      have s1 : zup LU (a : Int) B.1 a = B.1 := zup_s (by omega)
      have s2 : zup LL (a : Int) B.2.1 a = B.2.1 := zup_s (by omega)
      have s3 : zup HU (a : Int) B.2.2.1 a = B.2.2.1 := zup_s (by omega)
      have s4 : zup HL (a : Int) B.2.2.2 a = B.2.2.2 := zup_s (by omega)
      by_cases hem : bemp B = true
      · rw [if_pos hem] at ee
        refine Or.inl ⟨(0, zup LU a B.1, zup LL a B.2.1, zup HU a B.2.2.1, zup HL a B.2.2.2), ?_, 0, _, _, _, _, rfl, hoth, Or.inr ⟨rfl, ?_⟩⟩
        · simp (disch := omega) only [st_X2_fits, gd_t, if_pos, Int.toNat_natCast, hT a hak, hT j (by omega), ec, Option.bind_some, s1, s2, s3, s4, ee, if_neg]
        · have := bfold_emp hb hs hA hTr (j + 1) (by rw [ef]; exact hem) (a - (j + 1)) (by omega)
          rw [show j + 1 + (a - (j + 1)) = a by omega] at this
          exact this
      · have hem2 : bemp B = false := by simpa using hem
        rw [if_neg hem] at ee
        refine Or.inr ⟨((j : Int) + 1, zup LU a B.1, zup LL a B.2.1, zup HU a B.2.2.1, zup HL a B.2.2.2), ?_, ⟨j + 1, by show (j : Int) + 1 = ((j + 1 : Nat) : Int); omega, by omega, by rw [ef]; exact hab, by rw [ef]; exact hem2, hoth⟩, by show ((a : Int) - ((j : Int) + 1)).toNat < ((a : Int) - (j : Int)).toNat; omega⟩
        simp (disch := omega) only [st_X2_fits, gd_t, if_pos, if_true, Int.toNat_natCast, hT a hak, hT j (by omega), ec, Option.bind_some, s1, s2, s3, s4, ee]
    · have hja : j = a := by omega
      subst hja
      exact Or.inl ⟨(1, LU, LL, HU, HL), by simp (disch := omega) only [st_X2_fits, gd_t, if_neg], 1, LU, LL, HU, HL, rfl, g5, Or.inl ⟨rfl, g4, g3⟩⟩) (0, zup nLU a (nLU (a - 1)), zup nLL a (nLL (a - 1)), zup nHU a (nHU (a - 1)), zup nHL a (nHL (a - 1))) ⟨0, rfl, by omega, by
        show bx _ _ _ _ a = bx nLU nLL nHU nHL (a - 1)
        unfold bx
        dsimp only
        rw [zup_s (by omega), zup_s (by omega), zup_s (by omega), zup_s (by omega)], he0, fun i hi => by
        show bx _ _ _ _ i = bx nLU nLL nHU nHL i
        unfold bx
        dsimp only
        rw [zup_n (by omega), zup_n (by omega), zup_n (by omega), zup_n (by omega)]⟩
  exact ⟨r0, LU, LL, HU, HL, by rw [e, g1], g2, g3⟩
theorem e_open {k : Nat} {t nT nN nG nLU nLL nHU nHL : Nat → Int} {s lo hi : Int} {a : Nat} (C : zCt k t s lo hi) (ha : 0 < a) (hak : a < k) (hT : ∀ i : Nat, i < k → nT i = t i) (h : tI t s lo hi (pre nN a) (bx nLU nLL nHU nHL (a - 1))) : f_X2_open (a : Int) s nT nN nG nLU nLL nHU nHL = some (zup nN a (tM t s (pre nN a) (bx nLU nLL nHU nHL (a - 1))), zup nG a (bG (bx nLU nLL nHU nHL (a - 1)) (t a - t 0) s)) := by
  have hlen := pre_len nN a
  have ht := pre_tN nN ha
  have hb := h.2.2.2.2.1
  have hN := tI_nth h (show a - 1 < (pre nN a).length by omega)
  rw [pre_nth nN a (a - 1) (by omega)] at hN
  have h320 := h.2.2.2.1
  rw [ht] at hN h320
  obtain ⟨b1, b2, b3, b4, b5, b6, b7, b8⟩ := hb
  obtain ⟨c1, c2, c3, c4, c5, c6, c7, c8, c9⟩ := C
  have u1 := c8 a hak
  have u2 := c8 0 (by omega)
  have u3 := c9 0 a ha hak
  have e1 : Int.toNat ((a : Int) - 1) = a - 1 := by omega
  have hq : ∀ x : Int, 0 ≤ x → ∀ y : Int, Int.tdiv x y = x / y := fun x hx y => Int.tdiv_eq_ediv_of_nonneg hx
  have p1 := zm_bd (x := t a - t 0 + s) (y := nLL (a - 1)) (by omega) (by omega) (by have : 0 < nLL (a - 1) := b3; omega) b4
  have p1' : 0 ≤ (t a - t 0 + s) * nLL (a - 1) := Int.mul_nonneg (by omega) (by have : 0 < nLL (a - 1) := b3; omega)
  have b1' : 0 < nLU (a - 1) := b1
  have b2' : nLU (a - 1) ≤ 4000 := b2
  have b5' : 0 < nHU (a - 1) := b5
  have b6' : nHU (a - 1) ≤ 4000 := b6
  have b7' : 0 < nHL (a - 1) := b7
  have eg : f_X4_greatestTurns (t a - t 0) s (nLU (a - 1)) (nLL (a - 1)) = some (bG (bx nLU nLL nHU nHL (a - 1)) (t a - t 0) s) := by
    unfold f_X4_greatestTurns
    rw [gd_t ⟨by omega, by omega⟩, if_neg (by omega), gd_t ⟨⟨by omega, by omega⟩, ⟨by omega, by omega⟩, by omega⟩, hq _ p1']
    rfl
  have el : f_X4_leastTurns (t a - t 0) s (nHU (a - 1)) (nHL (a - 1)) = some (bL (bx nLU nLL nHU nHL (a - 1)) (t a - t 0) s) ∧ bL (bx nLU nLL nHU nHL (a - 1)) (t a - t 0) s ≤ 2000000 ∧ 0 ≤ bL (bx nLU nLL nHU nHL (a - 1)) (t a - t 0) s := by
    unfold f_X4_leastTurns bL
    by_cases hc : t a - t 0 ≤ s
    · rw [gd_t ⟨⟨by omega, by omega⟩, by omega, by omega⟩, if_pos hc, if_pos hc]
      exact ⟨rfl, by omega, by omega⟩
    · have p2 := zm_bd (x := t a - t 0 - s) (y := nHL (a - 1)) (by omega) (by omega) (by omega) b8
      have p2' : 0 ≤ (t a - t 0 - s) * nHL (a - 1) := Int.mul_nonneg (by omega) (by omega)
      rw [gd_t ⟨⟨by omega, by omega⟩, by omega, by omega⟩, if_neg hc, if_neg hc, gd_t ⟨by omega, by omega⟩, if_neg (by omega), gd_t ⟨⟨by omega, by omega⟩, ⟨by omega, by omega⟩, by omega⟩, hq _ (by omega)]
      have hx : 0 ≤ (t a - t 0 - s) * nHL (a - 1) + nHU (a - 1) - 1 := by omega
      have q1 := Int.ediv_le_self (nHU (a - 1)) hx
      have q2 := Int.ediv_nonneg hx (show 0 ≤ nHU (a - 1) by omega)
      exact ⟨rfl, by show ((t a - t 0 - s) * nHL (a - 1) + nHU (a - 1) - 1) / nHU (a - 1) ≤ 2000000; omega, q2⟩
  obtain ⟨el, el1, el2⟩ := el
  unfold tM
  rw [hlen, ht]
  generalize bL (bx nLU nLL nHU nHL (a - 1)) (t a - t 0) s = Lv at el el1 el2 ⊢
  simp (disch := omega) only [f_X2_open, gd_t, zlt_t, Int.toNat_natCast, e1, hT a hak, hT 0 (by omega), el, eg, Option.bind_some]
