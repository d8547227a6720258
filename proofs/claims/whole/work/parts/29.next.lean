/-! PURE: the class's numberings, one after the other -/
def cIt (k : Nat) (t : Nat → Int) (s lo hi : Int) (nb ne : Int) (nT nN nG nLU nLL nHU nHL : Nat → Int) (L : List (List Int × zB)) : Prop :=
  (∀ i : Nat, i < k → nT i = t i) ∧ ((ne = 1 ∧ L = []) ∨ (ne = 0 ∧ nb = 0 ∧ 0 < k ∧ nN 0 = 0 ∧ bx nLU nLL nHU nHL 0 = (lo, 1, hi, 1) ∧ L = tE t s (k - 1) [0] (lo, 1, hi, 1)) ∨ (ne = 0 ∧ nb = 1 ∧ k = 1 ∧ L = []) ∨ (ne = 0 ∧ nb = 1 ∧ 2 ≤ k ∧ cV t s lo hi nN (bx nLU nLL nHU nHL) (k - 1) ∧ (∀ i : Nat, 0 < i → i < k → nG i = bG (bx nLU nLL nHU nHL (i - 1)) (t i - t 0) s) ∧ cR t s k nN (bx nLU nLL nHU nHL) (k - 1) = L ∧ cC t s k nN (bx nLU nLL nHU nHL) (k - 1) ≤ 40000))
/-- one step of a walk through a list -/
def cNx (k : Nat) (t : Nat → Int) (s lo hi : Int) (nT : Nat → Int) (L : List (List Int × zB)) (r : Int × Int × Int × (Nat → Int) × (Nat → Int) × (Nat → Int) × (Nat → Int) × (Nat → Int) × (Nat → Int)) : Prop :=
  (r.1 = 0 ∧ L = [] ∧ cIt k t s lo hi r.2.1 r.2.2.1 nT r.2.2.2.1 r.2.2.2.2.1 r.2.2.2.2.2.1 r.2.2.2.2.2.2.1 r.2.2.2.2.2.2.2.1 r.2.2.2.2.2.2.2.2 []) ∨ (r.1 = 1 ∧ ∃ z rest, L = z :: rest ∧ pre r.2.2.2.1 k = z.1 ∧ bx r.2.2.2.2.2.1 r.2.2.2.2.2.2.1 r.2.2.2.2.2.2.2.1 r.2.2.2.2.2.2.2.2 (k - 1) = z.2 ∧ cIt k t s lo hi r.2.1 r.2.2.1 nT r.2.2.2.1 r.2.2.2.2.1 r.2.2.2.2.2.1 r.2.2.2.2.2.2.1 r.2.2.2.2.2.2.2.1 r.2.2.2.2.2.2.2.2 rest)
theorem e_next {k : Nat} {t nT nN nG nLU nLL nHU nHL : Nat → Int} {s lo hi nb ne : Int} {L : List (List Int × zB)} (C : zCt k t s lo hi) (hk : 0 < k ∨ ne = 1) (h : cIt k t s lo hi nb ne nT nN nG nLU nLL nHU nHL L) : ∃ r, f_X2_next (k : Int) s nb ne nT nN nG nLU nLL nHU nHL = some r ∧ cNx k t s lo hi nT L r := by
  have hk7 : k ≤ 7 := C.1
  obtain ⟨hT, h⟩ := h
  rcases h with ⟨rfl, rfl⟩ | ⟨rfl, rfl, h0, hN0, hB0, rfl⟩ | ⟨rfl, rfl, rfl, rfl⟩ | ⟨rfl, rfl, h2, hv, hG, hR, hC⟩
  · exact ⟨(0, nb, 1, nN, nG, nLU, nLL, nHU, nHL), by simp (disch := omega) only [f_X2_next, gd_t, if_neg], Or.inl ⟨rfl, rfl, hT, Or.inl ⟨rfl, rfl⟩⟩⟩
  · by_cases h1 : k = 1
    · subst h1
      refine ⟨(1, 1, 0, nN, nG, nLU, nLL, nHU, nHL), by simp (disch := omega) only [f_X2_next, gd_t, zlt_t, if_true, if_pos], Or.inr ⟨rfl, ([0], (lo, 1, hi, 1)), [], rfl, ?_, hB0, hT, Or.inr (Or.inr (Or.inl ⟨rfl, rfl, rfl, rfl⟩))⟩⟩
      show [] ++ [nN 0] = [0]
      rw [hN0]
      rfl
    · have hI : tI t s lo hi (pre nN 1) (bx nLU nLL nHU nHL (1 - 1)) := by
        show tI t s lo hi ([] ++ [nN 0]) (bx nLU nLL nHU nHL 0)
        rw [hN0, hB0]
        exact tI_root C
      have ep1 : pre nN 1 = [0] := by
        show [] ++ [nN 0] = [0]
        rw [hN0]
        rfl
      have eo := e_open (nN := nN) (nG := nG) (nLU := nLU) (nLL := nLL) (nHU := nHU) (nHL := nHL) (nT := nT) (a := 1) C (by omega) (by omega) hT hI
      have hI : tI t s lo hi (pre nN 1) (bx nLU nLL nHU nHL 0) := hI
      have eo : f_X2_open 1 s nT nN nG nLU nLL nHU nHL = some (zup nN 1 (tM t s (pre nN 1) (bx nLU nLL nHU nHL 0)), zup nG 1 (bG (bx nLU nLL nHU nHL 0) (t 1 - t 0) s)) := eo
      have hLb := bL_bd (a := 1) C hI (by omega) (by omega)
      have etN : tN (pre nN 1) = 0 := by rw [pre_tN nN (by omega)]; exact hN0
      have htM : 0 ≤ tM t s (pre nN 1) (bx nLU nLL nHU nHL 0) ∧ tM t s (pre nN 1) (bx nLU nLL nHU nHL 0) ≤ 3000000 := by
        unfold tM
        rw [etN, pre_len]
        omega
      have esk := tE_skip C hI (by rw [pre_len]; omega) (k - 2)
      rw [pre_len] at esk
      have ect : tC t s (k - 2 + 1) (pre nN 1) (bx nLU nLL nHU nHL 0) = ((cands (bG (bx nLU nLL nHU nHL 0) (t 1 - t 0) s - tM t s (pre nN 1) (bx nLU nLL nHU nHL 0)).toNat (tM t s (pre nN 1) (bx nLU nLL nHU nHL 0))).map (tG t s (k - 2) (pre nN 1) (bx nLU nLL nHU nHL 0))).sum + 1 := by
        simp only [tC, tc]
        rw [pre_len]
        rfl
      have hcb := tC_bd C (k - 2 + 1) (pre nN 1) (bx nLU nLL nHU nHL 0) hI (by rw [pre_len]; omega)
      generalize tM t s (pre nN 1) (bx nLU nLL nHU nHL 0) = Mv at eo htM esk ect
      have ew : zup nN 1 Mv 1 = Mv := zup_s (by decide)
      have ew0 : zup nN 1 Mv 0 = 0 := by rw [zup_n (by decide)]; exact hN0
      have ep : pre (zup nN 1 Mv) 1 = pre nN 1 := pre_congr 1 (fun i hi => zup_n (by omega))
      obtain ⟨r, es, ho⟩ := e_search (nN := zup nN 1 Mv) (nG := zup nG 1 (bG (bx nLU nLL nHU nHL 0) (t 1 - t 0) s)) (nLU := nLU) (nLL := nLL) (nHU := nHU) (nHL := nHL) (a := 1) (K0 := 40000) (L0 := tE t s (k - 1) [0] (lo, 1, hi, 1)) C hT (by omega) (by omega) ⟨fun i hi => by
        have : i = 0 := by omega
        subst this
        rw [show 0 + 1 = 1 by rfl, ep]
        exact hI, fun _ => by show zup nN 1 Mv 0 ≤ zup nN 1 Mv 1 ∧ zup nN 1 Mv 1 ≤ 3000000; rw [ew, ew0]; omega⟩ (fun i h1 h2 => by
        have : i = 1 := by omega
        subst this
        exact zup_s (by decide)) (by
        show (cands (bG (bx nLU nLL nHU nHL 0) (t 1 - t 0) s - zup nN 1 Mv 1).toNat (zup nN 1 Mv 1)).flatMap (tF t s (k - 2) (pre (zup nN 1 Mv) 1) (bx nLU nLL nHU nHL 0)) ++ [] = _
        rw [ew, ep, List.append_nil, ← esk, ep1, hB0, show k - 2 + 1 = k - 1 by omega]) (by
        show ((cands (bG (bx nLU nLL nHU nHL 0) (t 1 - t 0) s - zup nN 1 Mv 1).toNat (zup nN 1 Mv 1)).map (tG t s (k - 2) (pre (zup nN 1 Mv) 1) (bx nLU nLL nHU nHL 0))).sum + 1 + 0 ≤ 40000
        rw [ew, ep]
        omega)
      obtain ⟨r0, N2, G2, LU2, LL2, HU2, HL2⟩ := r
      have es : f_X2_search 1 (k : Int) s nT (zup nN 1 Mv) (zup nG 1 (bG (bx nLU nLL nHU nHL 0) (t 1 - t 0) s)) nLU nLL nHU nHL = some (r0, N2, G2, LU2, LL2, HU2, HL2) := es
      rcases ho with ⟨hr, hL⟩ | ⟨hr, z, rest, q1, q2, q3, q4, q5, q6, q7⟩
      · have hr : r0 = 0 := hr
        subst hr
        exact ⟨(0, 1, 1, N2, G2, LU2, LL2, HU2, HL2), by simp (disch := omega) only [f_X2_next, gd_t, zlt_t, if_true, if_false, if_pos, if_neg, eo, es, Option.bind_some], Or.inl ⟨rfl, hL, hT, Or.inl ⟨rfl, rfl⟩⟩⟩
      · have hr : r0 = 1 := hr
        subst hr
        exact ⟨(1, 1, 0, N2, G2, LU2, LL2, HU2, HL2), by simp (disch := omega) only [f_X2_next, gd_t, zlt_t, if_true, if_false, if_pos, if_neg, eo, es, Option.bind_some], Or.inr ⟨rfl, z, rest, q1, q2, q3, hT, Or.inr (Or.inr (Or.inr ⟨rfl, rfl, by omega, q4, q5, q6, q7⟩))⟩⟩
  · obtain ⟨r, es, ho⟩ := e_search (nN := nN) (nG := nG) (nLU := nLU) (nLL := nLL) (nHU := nHU) (nHL := nHL) (a := 0) (K0 := 40000) (L0 := []) C hT (by omega) (by omega) ⟨fun i hi => by omega, fun h => by omega⟩ (fun i h1 h2 => by omega) rfl (Nat.zero_le _)
    obtain ⟨r0, N2, G2, LU2, LL2, HU2, HL2⟩ := r
    have es : f_X2_search 0 ((1 : Nat) : Int) s nT nN nG nLU nLL nHU nHL = some (r0, N2, G2, LU2, LL2, HU2, HL2) := es
    rcases ho with ⟨hr, hL⟩ | ⟨hr, z, rest, q1, -⟩
    · have hr : r0 = 0 := hr
      subst hr
      refine ⟨(0, 1, 1, N2, G2, LU2, LL2, HU2, HL2), ?_, Or.inl ⟨rfl, rfl, hT, Or.inl ⟨rfl, rfl⟩⟩⟩
      have ez : ((1 : Nat) : Int) - 1 = 0 := by omega
      simp (disch := omega) only [f_X2_next, gd_t, zlt_t, if_true, if_false, if_pos, if_neg, ez, es, Option.bind_some]
    · cases q1
  · obtain ⟨r, es, ho⟩ := e_search (nN := nN) (nG := nG) (nLU := nLU) (nLL := nLL) (nHU := nHU) (nHL := nHL) (a := k - 1) (K0 := 40000) (L0 := L) C hT (by omega) (by omega) hv (fun i h1 h2 => hG i h1 (by omega)) hR hC
    obtain ⟨r0, N2, G2, LU2, LL2, HU2, HL2⟩ := r
    rw [show ((k - 1 : Nat) : Int) = (k : Int) - 1 by omega] at es
    rcases ho with ⟨hr, hL⟩ | ⟨hr, z, rest, q1, q2, q3, q4, q5, q6, q7⟩
    · have hr : r0 = 0 := hr
      subst hr
      exact ⟨(0, 1, 1, N2, G2, LU2, LL2, HU2, HL2), by simp (disch := omega) only [f_X2_next, gd_t, zlt_t, if_true, if_false, if_pos, if_neg, es, Option.bind_some], Or.inl ⟨rfl, hL, hT, Or.inl ⟨rfl, rfl⟩⟩⟩
    · have hr : r0 = 1 := hr
      subst hr
      exact ⟨(1, 1, 0, N2, G2, LU2, LL2, HU2, HL2), by simp (disch := omega) only [f_X2_next, gd_t, zlt_t, if_true, if_false, if_pos, if_neg, es, Option.bind_some], Or.inr ⟨rfl, z, rest, q1, q2, q3, hT, Or.inr (Or.inr (Or.inr ⟨rfl, rfl, h2, q4, q5, q6, q7⟩))⟩⟩
/-- all that stand -/
def tA (k : Nat) (t : Nat → Int) (s lo hi : Int) : List (List Int × zB) := if k = 0 then [] else tE t s (k - 1) [0] (lo, 1, hi, 1)
theorem tA_len {k : Nat} {t : Nat → Int} {s lo hi : Int} (C : zCt k t s lo hi) : (tA k t s lo hi).length ≤ 2241 := by
  unfold tA
  split
  · exact Nat.zero_le _
  · exact tE_len C (k - 1) [0] _ (tI_root C) (by simp only [List.length_cons, List.length_nil]; omega)
theorem zCt_of {z lo hi sl : Int} {T : Nat → Int} (h : zHear z lo hi sl T) : zCt z.toNat T (2 * sl) lo hi := by
  obtain ⟨a1, a2, a3, a4, a5, a6, a7, a8, a9, a10⟩ := h
  exact ⟨by omega, by omega, by omega, by omega, a3, a4, a5, fun i hi => a9 i (by omega), fun i j h1 h2 => t_lt a10 h1 (by omega)⟩
theorem e_begin (nz nr nb ne : Int) (nT nN nG nLU nLL nHU nHL : Nat → Int) {z lo hi sl : Int} {T : Nat → Int} (h : zHear z lo hi sl T) : ∃ (b2 e2 : Int) (T2 N2 LU LL HU HL : Nat → Int), f_X2_begin nz nr nb ne nT nN nLU nLL nHU nHL z lo hi sl T = some (z, 2 * sl, b2, e2, T2, N2, LU, LL, HU, HL) ∧ cIt z.toNat T (2 * sl) lo hi b2 e2 T2 N2 nG LU LL HU HL (tA z.toNat T (2 * sl) lo hi) ∧ (0 < z.toNat ∨ e2 = 1) := by
  obtain ⟨a1, a2, a3, a4, a5, a6, a7, a8, a9, a10⟩ := h
  unfold f_X2_begin
  obtain ⟨r, e, T2, g1, g2⟩ := zwhile (st := st_X2_begin z lo hi sl T) (fun v => 0 ≤ v.1 ∧ v.1 ≤ 7 ∧ (∀ k : Nat, (k : Int) < v.1 → v.2.2.2.2.2.1 k = T k) ∧ v.2.2.2.2.2.2.1 = nN ∧ v.2.2.2.2.2.2.2.1 = nLU ∧ v.2.2.2.2.2.2.2.2.1 = nLL ∧ v.2.2.2.2.2.2.2.2.2.1 = nHU ∧ v.2.2.2.2.2.2.2.2.2.2 = nHL) (fun v => (7 - v.1).toNat) (fun r => ∃ T2, r = (z, 2 * sl, 0, (if z ≤ 0 then 1 else 0), T2, zup nN 0 0, zup nLU 0 lo, zup nLL 0 1, zup nHU 0 hi, zup nHL 0 1) ∧ ∀ k : Nat, k < 7 → T2 k = T k) (by
    rintro ⟨x, a, b, c, d, S, N, LU, LL, HU, HL⟩ ⟨h0, h7, hS, q1, q2, q3, q4, q5⟩
    dsimp only at h0 h7 hS q1 q2 q3 q4 q5
    subst q1 q2 q3 q4 q5
    by_cases h : x < 7
    · refine Or.inr ⟨(x + 1, a, b, c, d, zup S x (T x.toNat), N, LU, LL, HU, HL), by simp (disch := omega) only [st_X2_begin, gd_t, if_pos], ⟨by show 0 ≤ x + 1; omega, by show x + 1 ≤ 7; omega, fun k hk => ?_, rfl, rfl, rfl, rfl, rfl⟩, by show (7 - (x + 1)).toNat < (7 - x).toNat; omega⟩
      have hk : (k : Int) < x + 1 := hk
      show zup S x _ k = T k
      by_cases e : k = x.toNat
      · rw [zup_s e, e]
      · rw [zup_n e]; exact hS k (by omega)
    · by_cases hz : z ≤ 0
      · refine Or.inl ⟨(z, 2 * sl, 0, 1, S, zup N 0 0, zup LU 0 lo, zup LL 0 1, zup HU 0 hi, zup HL 0 1), by simp (disch := omega) only [st_X2_begin, f_X4_spread, gd_t, if_pos, if_neg, Option.bind_some], S, ?_, fun k hk => hS k (by omega)⟩
        rw [if_pos hz]
      · refine Or.inl ⟨(z, 2 * sl, 0, 0, S, zup N 0 0, zup LU 0 lo, zup LL 0 1, zup HU 0 hi, zup HL 0 1), by simp (disch := omega) only [st_X2_begin, f_X4_spread, gd_t, if_neg, Option.bind_some], S, ?_, fun k hk => hS k (by omega)⟩
        rw [if_neg hz]) (0, nz, nr, nb, ne, nT, nN, nLU, nLL, nHU, nHL) ⟨by show (0 : Int) ≤ 0; omega, by show (0 : Int) ≤ 7; omega, fun k hk => by exfalso; have : (k : Int) < 0 := hk; omega, rfl, rfl, rfl, rfl, rfl⟩
  refine ⟨0, (if z ≤ 0 then 1 else 0), T2, zup nN 0 0, zup nLU 0 lo, zup nLL 0 1, zup nHU 0 hi, zup nHL 0 1, by rw [e, g1], ⟨fun i hi => g2 i (by omega), ?_⟩, ?_⟩
  · by_cases hz : z ≤ 0
    · rw [if_pos hz]
      refine Or.inl ⟨rfl, ?_⟩
      unfold tA
      rw [if_pos (by omega)]
    · rw [if_neg hz]
      refine Or.inr (Or.inl ⟨rfl, rfl, by omega, rfl, rfl, ?_⟩)
      unfold tA
      rw [if_neg (by omega)]
  · by_cases hz : z ≤ 0
    · rw [if_pos hz]; exact Or.inr rfl
    · exact Or.inl (by omega)
theorem e_tally {k : Nat} {t nT nN nG nLU nLL nHU nHL : Nat → Int} {s lo hi nb ne p : Int} {L : List (List Int × zB)} (C : zCt k t s lo hi) (hk : 0 < k ∨ ne = 1) (h : cIt k t s lo hi nb ne nT nN nG nLU nLL nHU nHL L) (hp : 0 ≤ p) (hp2 : p ≤ 1000001) : ∃ (j : Nat) (b2 e2 : Int) (N2 G2 LU LL HU HL : Nat → Int), f_X2_tally p (k : Int) s nb ne nT nN nG nLU nLL nHU nHL = some ((j : Int), b2, e2, N2, G2, LU, LL, HU, HL) ∧ (j : Int) = min p (L.length : Int) ∧ ((j : Int) = p → 0 < j → ∃ z, L[j - 1]? = some z ∧ pre N2 k = z.1 ∧ bx LU LL HU HL (k - 1) = z.2) := by
  unfold f_X2_tally
  obtain ⟨r, e, j, b2, e2, N2, G2, LU, LL, HU, HL, g1, g2, g3⟩ := zwhile (st := st_X2_tally p (k : Int) s nT) (fun v => ∃ j : Nat, v.1 = (j : Int) ∧ (j : Int) ≤ p ∧ j ≤ L.length ∧ (0 < k ∨ v.2.2.1 = 1) ∧ cIt k t s lo hi v.2.1 v.2.2.1 nT v.2.2.2.1 v.2.2.2.2.1 v.2.2.2.2.2.1 v.2.2.2.2.2.2.1 v.2.2.2.2.2.2.2.1 v.2.2.2.2.2.2.2.2 (L.drop j) ∧ (0 < j → ∃ z, L[j - 1]? = some z ∧ pre v.2.2.2.1 k = z.1 ∧ bx v.2.2.2.2.2.1 v.2.2.2.2.2.2.1 v.2.2.2.2.2.2.2.1 v.2.2.2.2.2.2.2.2 (k - 1) = z.2)) (fun v => (p - v.1).toNat) (fun r => ∃ (j : Nat) (b2 e2 : Int) (N2 G2 LU LL HU HL : Nat → Int), r = ((j : Int), b2, e2, N2, G2, LU, LL, HU, HL) ∧ (j : Int) = min p (L.length : Int) ∧ ((j : Int) = p → 0 < j → ∃ z, L[j - 1]? = some z ∧ pre N2 k = z.1 ∧ bx LU LL HU HL (k - 1) = z.2)) (by
    rintro ⟨x, b, e, N, G, LU, LL, HU, HL⟩ ⟨j, q1, q2, q3, q4, q5, q6⟩
    dsimp only at q1 q4 q5 q6
    subst q1
    by_cases hlt : (j : Int) < p
    · obtain ⟨⟨r0, b1, e1, N1, G1, LU1, LL1, HU1, HL1⟩, en, hn⟩ := e_next C q4 q5
      rcases hn with ⟨hr, hL, hI⟩ | ⟨hr, z, rest, hL, p1, p2, hI⟩
      · have hr : r0 = 0 := hr
        subst hr
        have hjL : j = L.length := by
          have := congrArg List.length hL
          rw [List.length_drop, List.length_nil] at this
          omega
        refine Or.inl ⟨((j : Int), b1, e1, N1, G1, LU1, LL1, HU1, HL1), by simp (disch := omega) only [st_X2_tally, gd_t, if_true, if_pos, en, Option.bind_some], j, b1, e1, N1, G1, LU1, LL1, HU1, HL1, rfl, by omega, fun hjp => by omega⟩
      · have hr : r0 = 1 := hr
        subst hr
        have hjL : j < L.length := by
          have := congrArg List.length hL
          rw [List.length_drop, List.length_cons] at this
          omega
        have hz : L[j]? = some z := by
          have := congrArg (fun l => l[0]?) hL
          rw [List.getElem?_drop, Nat.add_zero] at this
          exact this
        refine Or.inr ⟨((j : Int) + 1, b1, e1, N1, G1, LU1, LL1, HU1, HL1), by simp (disch := omega) only [st_X2_tally, gd_t, if_pos, if_neg, en, Option.bind_some], ⟨j + 1, by show (j : Int) + 1 = ((j + 1 : Nat) : Int); omega, by omega, by omega, ?_, ?_, fun _ => ⟨z, by rw [Nat.add_sub_cancel]; exact hz, p1, p2⟩⟩, by show (p - ((j : Int) + 1)).toNat < (p - (j : Int)).toNat; omega⟩
        · rcases Nat.eq_zero_or_pos k with hk0 | hk0
          · exfalso
            subst hk0
            obtain ⟨-, q5⟩ := q5
            rcases q5 with ⟨-, q5⟩ | ⟨-, -, q5, -⟩ | ⟨-, -, q5, -⟩ | ⟨-, -, q5, -⟩
            · rw [q5] at hL; cases hL
            · omega
            · omega
            · omega
          · exact Or.inl hk0
        · show cIt k t s lo hi b1 e1 nT N1 G1 LU1 LL1 HU1 HL1 (L.drop (j + 1))
          have : L.drop (j + 1) = rest := by
            rw [← List.drop_drop, hL]
            rfl
          rw [this]
          exact hI
    · exact Or.inl ⟨((j : Int), b, e, N, G, LU, LL, HU, HL), by simp (disch := omega) only [st_X2_tally, gd_t, if_neg], j, b, e, N, G, LU, LL, HU, HL, rfl, by omega, fun _ => q6⟩) (0, nb, ne, nN, nG, nLU, nLL, nHU, nHL) ⟨0, rfl, hp, Nat.zero_le _, hk, h, fun h0 => by omega⟩
  exact ⟨j, b2, e2, N2, G2, LU, LL, HU, HL, by rw [e, g1], g2, g3⟩
