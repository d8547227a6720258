/-! PURE: the reference goes through the tree -/
theorem zm_R2 {x y : Int} (h1 : 0 ≤ x) (h2 : x ≤ 400) (h3 : 0 ≤ y) (h4 : y ≤ 4000) : zR (x * y) := by
  rw [Int.mul_comm]
  exact zm_R (by omega) h4 h1 h2
/-- the row that the reference has at hand -/
def mRow (k : Nat) (t : Nat → Int) (s : Int) (R : Nat → Int) : Prop := 2 * R 3 = s ∧ ∀ i : Nat, i < k → R (4 + i) = t i
theorem e_apart {k : Nat} {t : Nat → Int} {s : Int} {R : Nat → Int} (h : mRow k t s R) (hk : k ≤ 7) {i j : Nat} (hi : i < k) (hj : j < k) : f_X7_apart (i : Int) (j : Int) R = some (t j - t i) := by
  have e1 : Int.toNat (4 + (i : Int)) = 4 + i := by omega
  have e2 : Int.toNat (4 + (j : Int)) = 4 + j := by omega
  simp (disch := omega) only [f_X7_apart, gd_t, e1, e2, h.2 i hi, h.2 j hj]
theorem e_beyond {k : Nat} {t R N LU LL HU HL : Nat → Int} {s lo hi : Int} {ν : List Int} {a : Nat} (C : zCt k t s lo hi) (hR : mRow k t s R) (ha : 0 < a) (hak : a < k) (hI : tI t s lo hi ν (bx LU LL HU HL (a - 1))) (hN0 : 0 ≤ N a) (hN : N a ≤ 330) : f_X7_isBeyond (a : Int) R N LU LL = some (if N a ≤ bG (bx LU LL HU HL (a - 1)) (t a - t 0) s then 0 else 1) := by
  have hk7 : k ≤ 7 := C.1
  have ea := e_apart hR hk7 (i := 0) (j := a) (by omega) hak
  have ea : f_X7_apart 0 (a : Int) R = some (t a - t 0) := ea
  have e1 : Int.toNat ((a : Int) - 1) = a - 1 := by omega
  obtain ⟨c1, c2, c3, c4, c5, c6, c7, c8, c9⟩ := C
  obtain ⟨b1, b2, b3, b4, -⟩ := hI.2.2.2.2.1
  have b1' : 0 < LU (a - 1) := b1
  have b2' : LU (a - 1) ≤ 4000 := b2
  have b3' : 0 < LL (a - 1) := b3
  have u1 := c8 a hak
  have u2 := c8 0 (by omega)
  have u3 := c9 0 a ha hak
  have r1 : zR ((t a - t 0 + s) * LL (a - 1)) := zm_R (by omega) (by omega) (by omega) b4
  have r2 : zR (N a * LU (a - 1)) := zm_R2 hN0 (by omega) (by omega) (by omega)
  have hiff := bG_iff (b := bx LU LL HU HL (a - 1)) (ap := t a - t 0) (s := s) (n := N a) b1
  have hiff : N a ≤ bG (bx LU LL HU HL (a - 1)) (t a - t 0) s ↔ N a * LU (a - 1) ≤ (t a - t 0 + s) * LL (a - 1) := hiff
  unfold f_X7_isBeyond
  rw [ea, Option.bind_some, gd_t ⟨by omega, by omega⟩, gd_t ⟨by omega, by omega⟩, gd_t ⟨by omega, by omega⟩, hR.1, e1, Int.toNat_natCast, gd_t ⟨r1, r2⟩]
  by_cases hc : N a ≤ bG (bx LU LL HU HL (a - 1)) (t a - t 0) s
  · have := hiff.mp hc
    rw [if_pos hc, if_neg (by omega)]
  · have h2 : ¬ N a * LU (a - 1) ≤ (t a - t 0 + s) * LL (a - 1) := fun q => hc (hiff.mpr q)
    rw [if_neg hc, if_pos (by omega)]
def bcL (b : zB) (ap s tr : Int) : zB := (if (ap - s) * b.2.1 ≤ b.1 * tr then b.1 else ap - s, if (ap - s) * b.2.1 ≤ b.1 * tr then b.2.1 else tr, b.2.2.1, b.2.2.2)
theorem e_doesCut {k : Nat} {t R nN nLU nLL nHU nHL : Nat → Int} {s lo hi : Int} {a : Nat} (C : zCt k t s lo hi) (hR : mRow k t s R) (ha : 0 < a) (hak : a < k) (h : tI t s lo hi (pre nN a) (bx nLU nLL nHU nHL (a - 1))) (h1 : nN (a - 1) < nN a) (h2 : nN a ≤ bG (bx nLU nLL nHU nHL (a - 1)) (t a - t 0) s) : ∃ (r : Int) (LU LL HU HL : Nat → Int), f_X7_doesCut (a : Int) R nN nLU nLL nHU nHL = some (r, LU, LL, HU, HL) ∧ (∀ i : Nat, i ≠ a → bx LU LL HU HL i = bx nLU nLL nHU nHL i) ∧ bx LU LL HU HL a = tb t s (pre nN a) (bx nLU nLL nHU nHL (a - 1)) (nN a) ∧ ((r = 1 ∧ bemp (tb t s (pre nN a) (bx nLU nLL nHU nHL (a - 1)) (nN a)) = false) ∨ (r = 0 ∧ bemp (tb t s (pre nN a) (bx nLU nLL nHU nHL (a - 1)) (nN a)) = true)) := by
  have hlen := pre_len nN a
  have ht := pre_tN nN ha
  obtain ⟨hn, hA, hTr⟩ := tI_bd (n := nN a) C h (by omega) (by omega) (by rw [hlen]; exact h2)
  rw [hlen] at hA hTr
  have hb := h.2.2.2.2.1
  have hs : 0 ≤ s := C.2.1
  have hs198 : s ≤ 198 := C.2.2.1
  have hk7 : k ≤ 7 := C.1
  have ew : pre nN a ++ [nN a] = pre nN (a + 1) := rfl
  rw [ew] at hTr
  have etb : tb t s (pre nN a) (bx nLU nLL nHU nHL (a - 1)) (nN a) = bfold t s (pre nN (a + 1)) a a (bx nLU nLL nHU nHL (a - 1)) := by
    unfold tb
    rw [hlen, ew]
  rw [etb]
  have key := fun j hj => bfold_ok hb hs hA hTr j hj
  have e1 : Int.toNat ((a : Int) - 1) = a - 1 := by omega
  have e0 : f_X7_doesCut (a : Int) R nN nLU nLL nHU nHL = zev (st_X7_doesCut (a : Int) R nN) (0, 0, 0, 0, 0, 0, zup nLU a (nLU (a - 1)), zup nLL a (nLL (a - 1)), zup nHU a (nHU (a - 1)), zup nHL a (nHL (a - 1))) := by
    simp (disch := omega) only [f_X7_doesCut, gd_t, e1]
  rw [e0]
  obtain ⟨r, e, r0, LU, LL, HU, HL, g1, g2, g3, g4⟩ := zwhile (st := st_X7_doesCut (a : Int) R nN) (fun v => ∃ j : Nat, v.2.1 = (j : Int) ∧ (∀ i : Nat, i ≠ a → bx v.2.2.2.2.2.2.1 v.2.2.2.2.2.2.2.1 v.2.2.2.2.2.2.2.2.1 v.2.2.2.2.2.2.2.2.2 i = bx nLU nLL nHU nHL i) ∧ ((v.1 = 0 ∧ j ≤ a ∧ bx v.2.2.2.2.2.2.1 v.2.2.2.2.2.2.2.1 v.2.2.2.2.2.2.2.2.1 v.2.2.2.2.2.2.2.2.2 a = bfold t s (pre nN (a + 1)) a j (bx nLU nLL nHU nHL (a - 1))) ∨ (v.1 = 1 ∧ j < a ∧ v.2.2.2.1 = nN a - nN j ∧ v.2.2.2.2.2.1 = t a - t j + s ∧ bx v.2.2.2.2.2.2.1 v.2.2.2.2.2.2.2.1 v.2.2.2.2.2.2.2.2.1 v.2.2.2.2.2.2.2.2.2 a = bcL (bfold t s (pre nN (a + 1)) a j (bx nLU nLL nHU nHL (a - 1))) (t a - t j) s (nN a - nN j)))) (fun v => (2 * ((a : Int) - v.2.1) + 1 - (v.1 : Int)).toNat) (fun r => ∃ (r0 : Int) (LU LL HU HL : Nat → Int), r = (r0, LU, LL, HU, HL) ∧ (∀ i : Nat, i ≠ a → bx LU LL HU HL i = bx nLU nLL nHU nHL i) ∧ bx LU LL HU HL a = bfold t s (pre nN (a + 1)) a a (bx nLU nLL nHU nHL (a - 1)) ∧ ((r0 = 1 ∧ bemp (bfold t s (pre nN (a + 1)) a a (bx nLU nLL nHU nHL (a - 1))) = false) ∨ (r0 = 0 ∧ bemp (bfold t s (pre nN (a + 1)) a a (bx nLU nLL nHU nHL (a - 1))) = true))) (by
    rintro ⟨w, x, x3, x4, x5, x6, LU, LL, HU, HL⟩ ⟨j, q1, q2, q3⟩
    dsimp only at q1 q2 q3
    subst q1
    rcases q3 with ⟨rfl, q4, q5⟩ | ⟨rfl, q4, rfl, rfl, q5⟩
    · by_cases hj : j < a
      · obtain ⟨i1, i2, i3⟩ := key j (by omega)
        have hAj := hA j hj
        have hTj := hTr j hj
        rw [pre_nth nN (a + 1) a (by omega), pre_nth nN (a + 1) j (by omega)] at hTj
        have eap := e_apart hR hk7 (i := j) (j := a) (by omega) hak
        rw [← q5] at i1
        obtain ⟨a1, a2, a3, a4, a5, a6, a7, a8⟩ := i1
        have a1 : 0 < LU a := a1
        have a2 : LU a ≤ 4000 := a2
        have a3 : 0 < LL a := a3
        have a4 : LL a ≤ 400 := a4
        have r1 : zR ((t a - t j - s) * LL a) := zm_R (by omega) (by omega) (by omega) a4
        have r2 : zR (LU a * (nN a - nN j)) := zm_R (by omega) a2 (by omega) (by omega)
        by_cases hc : (t a - t j - s) * LL a ≤ LU a * (nN a - nN j)
        · refine Or.inr ⟨(1, (j : Int), t a - t j, nN a - nN j, t a - t j - s, t a - t j + s, LU, LL, HU, HL), ?_, ⟨j, rfl, q2, Or.inr ⟨rfl, hj, rfl, rfl, ?_⟩⟩, by show (2 * ((a : Int) - (j : Int)) + 1 - ((1 : Nat) : Int)).toNat < (2 * ((a : Int) - (j : Int)) + 1 - ((0 : Nat) : Int)).toNat; omega⟩
          · simp (disch := omega) only [st_X7_doesCut, gd_t, if_pos, if_neg, zlt_t, Int.toNat_natCast, eap, hR.1, Option.bind_some]
          · rw [← q5]
            show (LU a, LL a, HU a, HL a) = bcL (LU a, LL a, HU a, HL a) _ _ _
            unfold bcL
            dsimp only
            rw [if_pos hc, if_pos hc]
        · refine Or.inr ⟨(1, (j : Int), t a - t j, nN a - nN j, t a - t j - s, t a - t j + s, zup LU a (t a - t j - s), zup LL a (nN a - nN j), HU, HL), ?_, ⟨j, rfl, fun i hi => ?_, Or.inr ⟨rfl, hj, rfl, rfl, ?_⟩⟩, by show (2 * ((a : Int) - (j : Int)) + 1 - ((1 : Nat) : Int)).toNat < (2 * ((a : Int) - (j : Int)) + 1 - ((0 : Nat) : Int)).toNat; omega⟩
          · simp (disch := omega) only [st_X7_doesCut, gd_t, if_pos, if_neg, zlt_t, Int.toNat_natCast, eap, hR.1, Option.bind_some]
          · rw [← q2 i hi]
            unfold bx
            dsimp only
            rw [zup_n (by omega), zup_n (by omega)]
          · rw [← q5]
            show (zup LU a (t a - t j - s) a, zup LL a (nN a - nN j) a, HU a, HL a) = bcL (LU a, LL a, HU a, HL a) _ _ _
            unfold bcL
            dsimp only
            rw [if_neg hc, if_neg hc, zup_s (by omega), zup_s (by omega)]
      · have hja : j = a := by omega
        subst hja
        obtain ⟨i1, -, -⟩ := key j (Nat.le_refl j)
        rw [← q5] at i1 ⊢
        obtain ⟨a1, a2, a3, a4, a5, a6, a7, a8⟩ := i1
        have a1 : 0 < LU j := a1
        have a2 : LU j ≤ 4000 := a2
        have a3 : 0 < LL j := a3
        have a4 : LL j ≤ 400 := a4
        have a5 : 0 < HU j := a5
        have a6 : HU j ≤ 4000 := a6
        have a7 : 0 < HL j := a7
        have a8 : HL j ≤ 400 := a8
        have r1 : zR (LU j * HL j) := zm_R (by omega) a2 (by omega) a8
        have r2 : zR (HU j * LL j) := zm_R (by omega) a6 (by omega) a4
        by_cases hc : LU j * HL j ≤ HU j * LL j
        · refine Or.inl ⟨(1, LU, LL, HU, HL), ?_, 1, LU, LL, HU, HL, rfl, q2, rfl, Or.inl ⟨rfl, ?_⟩⟩
          · simp (disch := omega) only [st_X7_doesCut, gd_t, if_pos, if_neg, Int.toNat_natCast]
          · unfold bemp
            refine decide_eq_false ?_
            show ¬ HU j * LL j < LU j * HL j
            omega
        · refine Or.inl ⟨(0, LU, LL, HU, HL), ?_, 0, LU, LL, HU, HL, rfl, q2, rfl, Or.inr ⟨rfl, ?_⟩⟩
          · simp (disch := omega) only [st_X7_doesCut, gd_t, if_pos, if_neg, Int.toNat_natCast]
          · unfold bemp
            refine decide_eq_true ?_
            show HU j * LL j < LU j * HL j
            omega
    · obtain ⟨i1, i2, i3⟩ := key j (by omega)
      have hAj := hA j q4
      have hTj := hTr j q4
      rw [pre_nth nN (a + 1) a (by omega), pre_nth nN (a + 1) j (by omega)] at hTj
      have ef : bfold t s (pre nN (a + 1)) a (j + 1) (bx nLU nLL nHU nHL (a - 1)) = bcut (bfold t s (pre nN (a + 1)) a j (bx nLU nLL nHU nHL (a - 1))) (t a - t j) s (nN a - nN j) := by
        show bcut _ _ _ (nth (pre nN (a + 1)) a - nth (pre nN (a + 1)) j) = _
        rw [pre_nth nN (a + 1) a (by omega), pre_nth nN (a + 1) j (by omega)]
      generalize bfold t s (pre nN (a + 1)) a j (bx nLU nLL nHU nHL (a - 1)) = B at q5 i1 ef
      obtain ⟨a1, a2, a3, a4, a5, a6, a7, a8⟩ := i1
      have hq5 : HU a = B.2.2.1 ∧ HL a = B.2.2.2 ∧ LU a = (bcL B (t a - t j) s (nN a - nN j)).1 ∧ LL a = (bcL B (t a - t j) s (nN a - nN j)).2.1 := by
        have h1 := congrArg (fun b : zB => b.2.2.1) q5
        have h2 := congrArg (fun b : zB => b.2.2.2) q5
        have h3 := congrArg (fun b : zB => b.1) q5
        have h4 := congrArg (fun b : zB => b.2.1) q5
        exact ⟨h1, h2, h3, h4⟩
      obtain ⟨k1, k2, k3, k4⟩ := hq5
      have r3 : zR ((t a - t j + s) * HL a) := by rw [k2]; exact zm_R (by omega) (by omega) (by omega) a8
      have r4 : zR (HU a * (nN a - nN j)) := by rw [k1]; exact zm_R (by omega) a6 (by omega) (by omega)
      by_cases hc : (t a - t j + s) * HL a < HU a * (nN a - nN j)
      · refine Or.inr ⟨(0, (j : Int) + 1, 0, 0, 0, 0, LU, LL, zup HU a (t a - t j + s), zup HL a (nN a - nN j)), ?_, ⟨j + 1, by show (j : Int) + 1 = ((j + 1 : Nat) : Int); omega, fun i hi => ?_, Or.inl ⟨rfl, by omega, ?_⟩⟩, by show (2 * ((a : Int) - ((j : Int) + 1)) + 1 - ((0 : Nat) : Int)).toNat < (2 * ((a : Int) - (j : Int)) + 1 - ((1 : Nat) : Int)).toNat; omega⟩
        · simp (disch := omega) only [st_X7_doesCut, gd_t, if_pos, if_neg, Int.toNat_natCast]
        · rw [← q2 i hi]
          unfold bx
          dsimp only
          rw [zup_n (by omega), zup_n (by omega)]
        · rw [ef]
          rw [k1, k2] at hc
          show (LU a, LL a, zup HU a (t a - t j + s) a, zup HL a (nN a - nN j) a) = bcut B _ _ _
          rw [k3, k4, zup_s (by omega), zup_s (by omega)]
          unfold bcut bcL
          rw [if_pos hc, if_pos hc]
      · refine Or.inr ⟨(0, (j : Int) + 1, 0, 0, 0, 0, LU, LL, HU, HL), ?_, ⟨j + 1, by show (j : Int) + 1 = ((j + 1 : Nat) : Int); omega, q2, Or.inl ⟨rfl, by omega, ?_⟩⟩, by show (2 * ((a : Int) - ((j : Int) + 1)) + 1 - ((0 : Nat) : Int)).toNat < (2 * ((a : Int) - (j : Int)) + 1 - ((1 : Nat) : Int)).toNat; omega⟩
        · simp (disch := omega) only [st_X7_doesCut, gd_t, if_pos, if_neg, Int.toNat_natCast]
        · rw [ef]
          rw [k1, k2] at hc
          show (LU a, LL a, HU a, HL a) = bcut B _ _ _
          rw [k1, k2, k3, k4]
          unfold bcut bcL
          rw [if_neg hc, if_neg hc]) (0, 0, 0, 0, 0, 0, zup nLU a (nLU (a - 1)), zup nLL a (nLL (a - 1)), zup nHU a (nHU (a - 1)), zup nHL a (nHL (a - 1))) ⟨0, rfl, fun i hi => by
        show bx _ _ _ _ i = bx nLU nLL nHU nHL i
        unfold bx
        dsimp only
        rw [zup_n (by omega), zup_n (by omega), zup_n (by omega), zup_n (by omega)], Or.inl ⟨rfl, by omega, by
        show bx _ _ _ _ a = bx nLU nLL nHU nHL (a - 1)
        unfold bx
        dsimp only
        rw [zup_s (by omega), zup_s (by omega), zup_s (by omega), zup_s (by omega)]⟩⟩
  exact ⟨r0, LU, LL, HU, HL, by rw [e, g1], g2, g3, g4⟩
