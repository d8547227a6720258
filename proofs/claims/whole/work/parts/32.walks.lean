/-! PURE: how many stand, the k-th, on both sides -/
theorem drop_cons {α : Type} {L rest : List α} {j : Nat} {z : α} (h : L.drop j = z :: rest) : j < L.length ∧ L[j]? = some z ∧ L.drop (j + 1) = rest := by
  refine ⟨?_, ?_, ?_⟩
  · have := congrArg List.length h
    rw [List.length_drop, List.length_cons] at this
    omega
  · have := congrArg (fun l => l[0]?) h
    rw [List.getElem?_drop, Nat.add_zero] at this
    exact this
  · rw [← List.drop_drop, h]
    rfl
theorem drop_nil {α : Type} {L : List α} {j : Nat} (h : L.drop j = []) : L.length ≤ j := by
  have := congrArg List.length h
  rw [List.length_drop, List.length_nil] at this
  omega
theorem e_mbegin (H N LU LD HU HD : Nat → Int) {R : Nat → Int} {z lo hi sl : Int} {T : Nat → Int} (h : zBoth R 0 z lo hi sl T) : ∃ H2 : Nat → Int, f_X7_begin_n R H N LU LD HU HD = some (0, H2, zup N 0 0, zup LU 0 lo, zup LD 0 1, zup HU 0 hi, zup HD 0 1) ∧ mIt z.toNat T (2 * sl) lo hi 0 H2 (zup N 0 0) (zup LU 0 lo) (zup LD 0 1) (zup HU 0 hi) (zup HD 0 1) (tA z.toNat T (2 * sl) lo hi) := by
  obtain ⟨⟨a1, a2, a3, a4, a5, a6, a7, a8, a9, a10⟩, b1, b2, b3, b4, b5⟩ := h
  obtain ⟨H2, e, hH⟩ := e_copyAll R H
  have h0 : H2 0 = z := (hH 0 (by omega)).trans b1
  have h1 : H2 1 = lo := (hH 1 (by omega)).trans b2
  have h2 : H2 2 = hi := (hH 2 (by omega)).trans b3
  have h3 : H2 3 = sl := (hH 3 (by omega)).trans b4
  refine ⟨H2, by unfold f_X7_begin_n; rw [e, Option.bind_some, h1, h2], ?_⟩
  by_cases hz : z = 0
  · exact Or.inl ⟨by omega, by omega, by omega, by unfold tA; rw [if_pos (by omega)]⟩
  · refine Or.inr ⟨⟨by omega, fun i hik => ?_⟩, by omega, Or.inl ⟨rfl, by omega, rfl, rfl, by unfold tA; rw [if_neg (by omega)]⟩⟩
    rw [hH (4 + i) (by omega)]
    have := b5 i (by omega)
    rw [Nat.zero_add] at this
    exact this
theorem e_mstand (H N LU LD HU HD : Nat → Int) {R : Nat → Int} {z lo hi sl : Int} {T : Nat → Int} (h : zBoth R 0 z lo hi sl T) : ∃ (l2 : Int) (H2 N2 LU2 LD2 HU2 HD2 : Nat → Int), f_X7_standing_n R H N LU LD HU HD = some (((tA z.toNat T (2 * sl) lo hi).length : Int), l2, H2, N2, LU2, LD2, HU2, HD2) := by
  have C := zCt_of h.1
  obtain ⟨H1, e, hI⟩ := e_mbegin H N LU LD HU HD h
  unfold f_X7_standing_n
  rw [e, Option.bind_some]
  generalize tA z.toNat T (2 * sl) lo hi = L at hI ⊢
  obtain ⟨⟨r0, r1, r2, r3, r4, r5, r6, r7⟩, e2, h2⟩ := zwhile (st := st_X7_standing_n) (fun v => ∃ j : Nat, v.1 = (j : Int) ∧ j ≤ L.length ∧ mIt z.toNat T (2 * sl) lo hi v.2.1 v.2.2.1 v.2.2.2.1 v.2.2.2.2.1 v.2.2.2.2.2.1 v.2.2.2.2.2.2.1 v.2.2.2.2.2.2.2 (L.drop j)) (fun v => L.length - v.1.toNat) (fun r => r.1 = (L.length : Int)) (by
    rintro ⟨x, lev, S, N, LU, LL, HU, HL⟩ ⟨j, q1, q2, q3⟩
    dsimp only at q1 q3
    subst q1
    obtain ⟨⟨r0, l1, S1, N1, A1, B1, C1, D1⟩, en, hn⟩ := e_goesOn C q3
    rcases hn with ⟨hr, hL, hI⟩ | ⟨hr, w, rest, hL, p1, p2, hI⟩
    · have hr : r0 = 0 := hr
      subst hr
      have hj := drop_nil hL
      exact Or.inl ⟨((j : Int), l1, S1, N1, A1, B1, C1, D1), by simp (disch := omega) only [st_X7_standing_n, en, Option.bind_some, gd_t, if_true, if_pos], by show (j : Int) = _; omega⟩
    · have hr : r0 = 1 := hr
      subst hr
      obtain ⟨hj, -, hd⟩ := drop_cons hL
      refine Or.inr ⟨((j : Int) + 1, l1, S1, N1, A1, B1, C1, D1), by simp (disch := omega) only [st_X7_standing_n, en, Option.bind_some, gd_t, if_neg], ⟨j + 1, by show (j : Int) + 1 = ((j + 1 : Nat) : Int); omega, by omega, ?_⟩, by show L.length - ((j : Int) + 1).toNat < L.length - (j : Int).toNat; omega⟩
      rw [hd]
      exact hI) (0, 0, H1, zup N 0 0, zup LU 0 lo, zup LD 0 1, zup HU 0 hi, zup HD 0 1) ⟨0, rfl, Nat.zero_le _, hI⟩
  have h2 : r0 = (L.length : Int) := h2
  subst h2
  exact ⟨r1, r2, r3, r4, r5, r6, r7, e2⟩
theorem e_mstand_f (H N LU LD HU HD : Nat → Int) {R : Nat → Int} {z lo hi sl : Int} {T : Nat → Int} (h : zBoth R 0 z lo hi sl T) : ∃ (l2 : Int) (H2 N2 LU2 LD2 HU2 HD2 : Nat → Int), f_X7_standing_f R H N LU LD HU HD = some (((tA z.toNat T (2 * sl) lo hi).length : Int), l2, H2, N2, LU2, LD2, HU2, HD2) := e_mstand H N LU LD HU HD h
theorem e_isNum (H N LU LD HU HD : Nat → Int) {R : Nat → Int} {z lo hi sl p : Int} {T : Nat → Int} (h : zBoth R 0 z lo hi sl T) (hp : zR p) (hp0 : 0 ≤ p) : ∃ (r l2 : Int) (H2 N2 LU2 LD2 HU2 HD2 : Nat → Int), f_X7_isNumbered p R H N LU LD HU HD = some (r, l2, H2, N2, LU2, LD2, HU2, HD2) ∧ ((r = 1 ∧ ∃ w, (tA z.toNat T (2 * sl) lo hi)[p.toNat]? = some w ∧ pre N2 z.toNat = w.1 ∧ bx LU2 LD2 HU2 HD2 (z.toNat - 1) = w.2) ∨ (r = 0 ∧ (tA z.toNat T (2 * sl) lo hi)[p.toNat]? = none)) := by
  obtain ⟨hp1, hp2⟩ := hp
  have C := zCt_of h.1
  obtain ⟨H1, e, hI⟩ := e_mbegin H N LU LD HU HD h
  unfold f_X7_isNumbered
  rw [e, Option.bind_some]
  have hlen := tA_len C
  generalize tA z.toNat T (2 * sl) lo hi = L at hI hlen ⊢
  obtain ⟨⟨r0, r1, r2, r3, r4, r5, r6, r7⟩, e2, h2⟩ := zwhile (st := st_X7_isNumbered p) (fun v => ∃ j : Nat, v.1 = (j : Int) ∧ j ≤ L.length ∧ (j : Int) ≤ p ∧ mIt z.toNat T (2 * sl) lo hi v.2.1 v.2.2.1 v.2.2.2.1 v.2.2.2.2.1 v.2.2.2.2.2.1 v.2.2.2.2.2.2.1 v.2.2.2.2.2.2.2 (L.drop j)) (fun v => L.length - v.1.toNat) (fun r => (r.1 = 1 ∧ ∃ w, L[p.toNat]? = some w ∧ pre r.2.2.2.1 z.toNat = w.1 ∧ bx r.2.2.2.2.1 r.2.2.2.2.2.1 r.2.2.2.2.2.2.1 r.2.2.2.2.2.2.2 (z.toNat - 1) = w.2) ∨ (r.1 = 0 ∧ L[p.toNat]? = none)) (by
    rintro ⟨x, lev, S, N, LU, LL, HU, HL⟩ ⟨j, q1, q2, q4, q3⟩
    dsimp only at q1 q3
    subst q1
    obtain ⟨⟨r0, l1, S1, N1, A1, B1, C1, D1⟩, en, hn⟩ := e_goesOn C q3
    rcases hn with ⟨hr, hL, hI⟩ | ⟨hr, w, rest, hL, p1, p2, hI⟩
    · have hr : r0 = 0 := hr
      subst hr
      have hj := drop_nil hL
      exact Or.inl ⟨(0, l1, S1, N1, A1, B1, C1, D1), by simp (disch := omega) only [st_X7_isNumbered, en, Option.bind_some, gd_t, if_true, if_pos], Or.inr ⟨rfl, List.getElem?_eq_none (by omega)⟩⟩
    · have hr : r0 = 1 := hr
      subst hr
      obtain ⟨hj, hw, hd⟩ := drop_cons hL
      by_cases hjp : (j : Int) = p
      · exact Or.inl ⟨(1, l1, S1, N1, A1, B1, C1, D1), by simp (disch := omega) only [st_X7_isNumbered, en, Option.bind_some, gd_t, if_neg, if_pos], Or.inl ⟨rfl, w, by rw [← hjp, Int.toNat_natCast]; exact hw, p1, p2⟩⟩
      · refine Or.inr ⟨((j : Int) + 1, l1, S1, N1, A1, B1, C1, D1), by simp (disch := omega) only [st_X7_isNumbered, en, Option.bind_some, gd_t, if_neg], ⟨j + 1, by show (j : Int) + 1 = ((j + 1 : Nat) : Int); omega, by omega, by omega, ?_⟩, by show L.length - ((j : Int) + 1).toNat < L.length - (j : Int).toNat; omega⟩
        rw [hd]
        exact hI) (0, 0, H1, zup N 0 0, zup LU 0 lo, zup LD 0 1, zup HU 0 hi, zup HD 0 1) ⟨0, rfl, Nat.zero_le _, hp0, hI⟩
  exact ⟨r0, r1, r2, r3, r4, r5, r6, r7, e2, h2⟩
theorem e_cstand (nz nr nb ne : Int) (nT nN nG nLU nLL nHU nHL : Nat → Int) {z lo hi sl : Int} {T : Nat → Int} (h : zHear z lo hi sl T) : ∃ (b2 e2 : Int) (T2 N2 G2 LU LL HU HL : Nat → Int), f_X6_standing_a z lo hi sl T nz nr nb ne nT nN nG nLU nLL nHU nHL = some (((tA z.toNat T (2 * sl) lo hi).length : Int), z, 2 * sl, b2, e2, T2, N2, G2, LU, LL, HU, HL) := by
  have C := zCt_of h
  have hz : ((z.toNat : Nat) : Int) = z := by have := h.1; omega
  obtain ⟨b1, e1, T1, N1, LU1, LL1, HU1, HL1, eb, hI, hk⟩ := e_begin nz nr nb ne nT nN nG nLU nLL nHU nHL h
  have hlen := tA_len C
  obtain ⟨j, b2, e2, N2, G2, LU2, LL2, HU2, HL2, et, hj, -⟩ := e_tally (p := 1000000) C hk hI (by omega) (by omega)
  rw [hz] at et
  refine ⟨b2, e2, T1, N2, G2, LU2, LL2, HU2, HL2, ?_⟩
  unfold f_X6_standing_a
  rw [eb, Option.bind_some]
  dsimp only
  rw [et, Option.bind_some]
  dsimp only
  rw [show (j : Int) = ((tA z.toNat T (2 * sl) lo hi).length : Int) by omega]
theorem e_cstand_b (nz nr nb ne : Int) (nT nN nG nLU nLL nHU nHL : Nat → Int) {z lo hi sl : Int} {T : Nat → Int} (h : zHear z lo hi sl T) : ∃ (b2 e2 : Int) (T2 N2 G2 LU LL HU HL : Nat → Int), f_X6_standing_b z lo hi sl T nz nr nb ne nT nN nG nLU nLL nHU nHL = some (((tA z.toNat T (2 * sl) lo hi).length : Int), z, 2 * sl, b2, e2, T2, N2, G2, LU, LL, HU, HL) := e_cstand nz nr nb ne nT nN nG nLU nLL nHU nHL h
theorem e_goesTo_n (nz nr nb ne : Int) (nT nN nG nLU nLL nHU nHL : Nat → Int) {z lo hi sl p : Int} {T : Nat → Int} (hp : zR p) (hp0 : ¬ p < 0) (hm : ¬ p < 1000000) : f_X6_goesTo p z lo hi sl T nz nr nb ne nT nN nG nLU nLL nHU nHL = some (0, nz, nr, nb, ne, nT, nN, nG, nLU, nLL, nHU, nHL) := by
  have hM : zR 1000000 := ⟨by omega, by omega⟩
  unfold f_X6_goesTo
  rw [gd_t hp, if_neg hp0, gd_t ⟨hp, hM⟩, if_neg hm]
theorem e_goesTo_y (nz nr nb ne : Int) (nT nN nG nLU nLL nHU nHL : Nat → Int) {z lo hi sl p : Int} {T : Nat → Int} (hp : zR p) (hp0 : ¬ p < 0) (hm : p < 1000000) {z1 s1 b1 e1 j b2 e2 : Int} {T1 N1 LU1 LL1 HU1 HL1 N2 G2 LU2 LL2 HU2 HL2 : Nat → Int} (eb : f_X2_begin nz nr nb ne nT nN nLU nLL nHU nHL z lo hi sl T = some (z1, s1, b1, e1, T1, N1, LU1, LL1, HU1, HL1)) (et : f_X2_tally (p + 1) z1 s1 b1 e1 T1 N1 nG LU1 LL1 HU1 HL1 = some (j, b2, e2, N2, G2, LU2, LL2, HU2, HL2)) (hj : zR j) (hp1 : zR (p + 1)) : f_X6_goesTo p z lo hi sl T nz nr nb ne nT nN nG nLU nLL nHU nHL = some ((if j = p + 1 then 1 else 0), z1, s1, b2, e2, T1, N2, G2, LU2, LL2, HU2, HL2) := by
  have hM : zR 1000000 := ⟨by omega, by omega⟩
  unfold f_X6_goesTo
  rw [gd_t hp, if_neg hp0, gd_t ⟨hp, hM⟩, if_pos hm, eb, Option.bind_some]
  dsimp only
  rw [et, Option.bind_some]
  dsimp only
  rw [gd_t ⟨hj, hp1⟩]
  by_cases h : j = p + 1
  · rw [if_pos h, if_pos h]
  · rw [if_neg h, if_neg h]
theorem e_goesTo (nz nr nb ne : Int) (nT nN nG nLU nLL nHU nHL : Nat → Int) {z lo hi sl p : Int} {T : Nat → Int} (h : zHear z lo hi sl T) (hp : zR p) (hp0 : 0 ≤ p) : ∃ (r z2 s2 b2 e2 : Int) (T2 N2 G2 LU LL HU HL : Nat → Int), f_X6_goesTo p z lo hi sl T nz nr nb ne nT nN nG nLU nLL nHU nHL = some (r, z2, s2, b2, e2, T2, N2, G2, LU, LL, HU, HL) ∧ ((r = 1 ∧ z2 = z ∧ ∃ w, (tA z.toNat T (2 * sl) lo hi)[p.toNat]? = some w ∧ pre N2 z.toNat = w.1 ∧ bx LU LL HU HL (z.toNat - 1) = w.2) ∨ (r = 0 ∧ (tA z.toNat T (2 * sl) lo hi)[p.toNat]? = none)) := by
  obtain ⟨hp1, hp2⟩ := hp
  have C := zCt_of h
  have hz : ((z.toNat : Nat) : Int) = z := by have := h.1; omega
  have hlen := tA_len C
  by_cases hm : p < 1000000
  · obtain ⟨b1, e1, T1, N1, LU1, LL1, HU1, HL1, eb, hI, hk⟩ := e_begin nz nr nb ne nT nN nG nLU nLL nHU nHL h
    obtain ⟨j, b2, e2, N2, G2, LU2, LL2, HU2, HL2, et, hj, hj2⟩ := e_tally (p := p + 1) C hk hI (by omega) (by omega)
    rw [hz] at et
    have ey := e_goesTo_y nz nr nb ne nT nN nG nLU nLL nHU nHL (z := z) (lo := lo) (hi := hi) (sl := sl) (T := T) ⟨hp1, hp2⟩ (by omega) hm eb et ⟨by omega, by omega⟩ ⟨by omega, by omega⟩
    by_cases hjp : (j : Int) = p + 1
    · obtain ⟨w, w1, w2, w3⟩ := hj2 hjp (by omega)
      refine ⟨1, z, 2 * sl, b2, e2, T1, N2, G2, LU2, LL2, HU2, HL2, by rw [ey, if_pos hjp], Or.inl ⟨rfl, rfl, w, ?_, w2, w3⟩⟩
      rw [show p.toNat = j - 1 by omega]
      exact w1
    · refine ⟨0, z, 2 * sl, b2, e2, T1, N2, G2, LU2, LL2, HU2, HL2, by rw [ey, if_neg hjp], Or.inr ⟨rfl, List.getElem?_eq_none (by omega)⟩⟩
  · exact ⟨0, nz, nr, nb, ne, nT, nN, nG, nLU, nLL, nHU, nHL, e_goesTo_n nz nr nb ne nT nN nG nLU nLL nHU nHL ⟨hp1, hp2⟩ (by omega) hm, Or.inr ⟨rfl, List.getElem?_eq_none (by omega)⟩⟩
