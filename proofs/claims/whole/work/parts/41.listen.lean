/-! PURE: listen -/
theorem tell2 {k mm : Nat} {t aT : Nat → Int} {s lo hi fs : Int} {w : List Int × zB} {z0 l0 h0 sl0 : Int} (hk : 0 < k) (hk6 : k ≤ 6) (hmm : mm ≤ 100) (C : ∀ i : Nat, i < mm → zCt (k + 1) (tx t k (fs + i)) s lo hi) (hI : tI t s lo hi w.1 w.2) (hl : w.1.length = k) {x3 nb ne : Int} : ∀ (d a : Nat) (nT nN nG nLU nLL nHU nHL yY : Nat → Int), a + d = mm → (∀ i : Nat, i < k → nT i = t i) → pre nN k = w.1 → bx nLU nLL nHU nHL (k - 1) = w.2 → ∃ (nT2 nN2 nG2 LU2 LL2 HU2 HL2 yY2 : Nat → Int), zev (st_X6_tellLeftBy fs (mm : Int) z0 l0 h0 sl0 aT) (2, x3, (a : Int), (k : Int), s, nb, ne, nT, nN, nG, nLU, nLL, nHU, nHL, yY) = zev (st_X6_tellLeftBy fs (mm : Int) z0 l0 h0 sl0 aT) (1, x3 + 1, 0, (k : Int), s, nb, ne, nT2, nN2, nG2, LU2, LL2, HU2, HL2, yY2) ∧ (∀ i : Nat, i < k → nT2 i = nT i) ∧ (∀ i : Nat, i < k → nN2 i = nN i) ∧ (∀ i : Nat, i < k → nG2 i = nG i) ∧ (∀ i : Nat, i < k → bx LU2 LL2 HU2 HL2 i = bx nLU nLL nHU nHL i) ∧ (∀ i : Nat, i < a → yY2 i = yY i) ∧ ∀ i : Nat, a ≤ i → i < mm → yY2 i = yY i + (fur t s k (fs + i) w : Int) := by
  intro d
  induction d with
  | zero =>
    intro a nT nN nG nLU nLL nHU nHL yY h hT hp hb
    exact ⟨nT, nN, nG, nLU, nLL, nHU, nHL, yY, zev_inl (by simp (disch := omega) only [st_X6_tellLeftBy, gd_t, if_neg]), fun _ _ => rfl, fun _ _ => rfl, fun _ _ => rfl, fun _ _ => rfl, fun _ _ => rfl, fun i h1 h2 => by omega⟩
  | succ d ih =>
    intro a nT nN nG nLU nLL nHU nHL yY h hT hp hb
    obtain ⟨N1, G1, LU1, LL1, HU1, HL1, ef, f1, f2, f3⟩ := e_further (nG := nG) (C a (by omega)) hk hT hI hl hp hb
    obtain ⟨nT2, nN2, nG2, LU2, LL2, HU2, HL2, yY2, i0, i1, i2, i3, i4, i5, i6⟩ := ih (a + 1) (zup nT (k : Int) (fs + a)) N1 G1 LU1 LL1 HU1 HL1 (zup yY (a : Int) (yY a + (fur t s k (fs + a) w : Int))) (by omega) (fun i hik => by rw [zup_n (by omega)]; exact hT i hik) (by rw [← hp]; exact pre_congr k f1) (by rw [← hb]; exact f3 (k - 1) (by omega))
    refine ⟨nT2, nN2, nG2, LU2, LL2, HU2, HL2, yY2, ?_, fun i hik => ?_, fun i hik => ?_, fun i hik => ?_, fun i hik => ?_, fun i hia => ?_, fun i h1 h2 => ?_⟩
    · rw [← i0, show ((a + 1 : Nat) : Int) = (a : Int) + 1 by omega]
      exact zev_inl (by simp (disch := omega) only [st_X6_tellLeftBy, gd_t, if_pos, ef, Option.bind_some, Int.toNat_natCast])
    · rw [i1 i hik, zup_n (by omega)]
    · rw [i2 i hik]; exact f1 i hik
    · rw [i3 i hik]; exact f2 i hik
    · rw [i4 i hik]; exact f3 i hik
    · rw [i5 i (by omega), zup_n (by omega)]
    · by_cases e : i = a
      · subst e
        rw [i5 i (by omega), zup_s (by omega)]
      · rw [i6 i (by omega) h2, zup_n (by omega)]
theorem tell1 {k mm : Nat} {t aT : Nat → Int} {s lo hi fs : Int} {z0 l0 h0 sl0 : Int} (hk : 0 < k) (hk6 : k ≤ 6) (hmm : mm ≤ 100) (C0 : zCt k t s lo hi) (C : ∀ i : Nat, i < mm → zCt (k + 1) (tx t k (fs + i)) s lo hi) : ∀ (L : List (List Int × zB)) (j : Nat) (nb ne : Int) (nT nN nG nLU nLL nHU nHL yY : Nat → Int), cIt k t s lo hi nb ne nT nN nG nLU nLL nHU nHL L → j + L.length ≤ 3000 → (∀ w ∈ L, tI t s lo hi w.1 w.2 ∧ w.1.length = k) → ∃ (b2 e2 : Int) (nT2 nN2 nG2 LU2 LL2 HU2 HL2 yY2 : Nat → Int), zev (st_X6_tellLeftBy fs (mm : Int) z0 l0 h0 sl0 aT) (1, (j : Int), 0, (k : Int), s, nb, ne, nT, nN, nG, nLU, nLL, nHU, nHL, yY) = some ((k : Int), s, b2, e2, nT2, nN2, nG2, LU2, LL2, HU2, HL2, yY2) ∧ ∀ i : Nat, i < mm → yY2 i = yY i + (((L.map (fur t s k (fs + i))).sum : Nat) : Int) := by
  intro L
  induction L with
  | nil =>
    intro j nb ne nT nN nG nLU nLL nHU nHL yY hI hj _
    obtain ⟨⟨r0, b1, e1, N1, G1, LU1, LL1, HU1, HL1⟩, en, hn⟩ := e_next C0 (Or.inl hk) hI
    rcases hn with ⟨hr, -, -⟩ | ⟨hr, z, rest, hL, -⟩
    · have hr : r0 = 0 := hr
      subst hr
      exact ⟨b1, e1, nT, N1, G1, LU1, LL1, HU1, HL1, yY, zev_inr (by simp (disch := omega) only [st_X6_tellLeftBy, gd_t, if_pos, if_true, en, Option.bind_some]), fun i _ => by rw [List.map_nil, List.sum_nil]; omega⟩
    · cases hL
  | cons w L ih =>
    intro j nb ne nT nN nG nLU nLL nHU nHL yY hI hj hw
    rw [List.length_cons] at hj
    obtain ⟨⟨r0, b1, e1, N1, G1, LU1, LL1, HU1, HL1⟩, en, hn⟩ := e_next C0 (Or.inl hk) hI
    rcases hn with ⟨hr, hL, -⟩ | ⟨hr, z, rest, hL, p1, p2, hI2⟩
    · cases hL
    · have hr : r0 = 1 := hr
      subst hr
      have hz : w = z := (List.cons.inj hL).1
      have hrest : L = rest := (List.cons.inj hL).2
      subst hz
      subst hrest
      obtain ⟨w1, w2⟩ := hw w List.mem_cons_self
      have s1 : zev (st_X6_tellLeftBy fs (mm : Int) z0 l0 h0 sl0 aT) (1, (j : Int), 0, (k : Int), s, nb, ne, nT, nN, nG, nLU, nLL, nHU, nHL, yY) = zev (st_X6_tellLeftBy fs (mm : Int) z0 l0 h0 sl0 aT) (2, (j : Int), 0, (k : Int), s, b1, e1, nT, N1, G1, LU1, LL1, HU1, HL1, yY) := zev_inl (by simp (disch := omega) only [st_X6_tellLeftBy, gd_t, if_pos, if_neg, en, Option.bind_some])
      obtain ⟨nT2, nN2, nG2, LU2, LL2, HU2, HL2, yY2, i0, i1, i2, i3, i4, i5, i6⟩ := tell2 (aT := aT) (z0 := z0) (l0 := l0) (h0 := h0) (sl0 := sl0) (x3 := (j : Int)) (nb := b1) (ne := e1) hk hk6 hmm C w1 w2 mm 0 nT N1 G1 LU1 LL1 HU1 HL1 yY (by omega) hI.1 p1 p2
      rw [show ((0 : Nat) : Int) = 0 by rfl] at i0
      have hI3 := cIt_congr hI2 i1 i2 i3 i4
      obtain ⟨b4, e4, nT4, nN4, nG4, LU4, LL4, HU4, HL4, yY4, q1, q2⟩ := ih (j + 1) b1 e1 nT2 nN2 nG2 LU2 LL2 HU2 HL2 yY2 hI3 (by omega) (fun v hv => hw v (List.mem_cons_of_mem _ hv))
      rw [show ((j + 1 : Nat) : Int) = (j : Int) + 1 by omega] at q1
      refine ⟨b4, e4, nT4, nN4, nG4, LU4, LL4, HU4, HL4, yY4, by rw [s1, i0]; exact q1, fun i him => ?_⟩
      rw [q2 i him, i6 i (by omega) him, List.map_cons, List.sum_cons]
      omega
theorem tell0 {fs p2 z0 l0 h0 sl0 : Int} {aT : Nat → Int} {nz nr nb ne : Int} {nT nN nG nLU nLL nHU nHL : Nat → Int} : ∀ (d a : Nat) (yY : Nat → Int), a + d = 100 → (∀ i : Nat, i < a → yY i = 0) → ∃ yY2 : Nat → Int, (∀ i : Nat, i < 100 → yY2 i = 0) ∧ zev (st_X6_tellLeftBy fs p2 z0 l0 h0 sl0 aT) (0, (a : Int), 0, nz, nr, nb, ne, nT, nN, nG, nLU, nLL, nHU, nHL, yY) = zev (st_X6_tellLeftBy fs p2 z0 l0 h0 sl0 aT) (0, 100, 0, nz, nr, nb, ne, nT, nN, nG, nLU, nLL, nHU, nHL, yY2) := by
  intro d
  induction d with
  | zero =>
    intro a S h hs
    have : a = 100 := by omega
    subst this
    exact ⟨S, hs, rfl⟩
  | succ d ih =>
    intro a S h hs
    obtain ⟨S2, g1, g2⟩ := ih (a + 1) (zup S (a : Int) 0) (by omega) (fun i hia => by
      by_cases e : i = a
      · rw [zup_s (by omega)]
      · rw [zup_n (by omega)]; exact hs i (by omega))
    refine ⟨S2, g1, ?_⟩
    rw [← g2, show ((a + 1 : Nat) : Int) = (a : Int) + 1 by omega]
    exact zev_inl (by simp (disch := omega) only [st_X6_tellLeftBy, gd_t, if_pos])
def lst (V : Nat → Int) (fs : Int) : Nat → Nat → Int → Int → Int
  | 0, _, best, _ => best
  | d + 1, a, best, few => if V a ≤ 0 then lst V fs d (a + 1) best few else if best = -9 then lst V fs d (a + 1) (fs + a) (V a) else if V a < few then lst V fs d (a + 1) (fs + a) (V a) else lst V fs d (a + 1) best few
theorem c_lst {mm : Nat} {V : Nat → Int} {fs : Int} {nz nr nb ne : Int} {nT nN nG nLU nLL nHU nHL yY : Nat → Int} (hmm : mm ≤ 100) (hf : 0 ≤ fs) (hf2 : fs ≤ 3000) (hV : ∀ i : Nat, i < mm → yY i = V i ∧ zR (V i)) : ∀ (d a : Nat) (best few : Int), a + d = mm → zR best → zR few → zev st_X6_listen (fs, (mm : Int), best, few, (a : Int), nz, nr, nb, ne, nT, nN, nG, nLU, nLL, nHU, nHL, yY) = some (lst V fs d a best few, nz, nr, nb, ne, nT, nN, nG, nLU, nLL, nHU, nHL, yY) := by
  intro d
  induction d with
  | zero =>
    intro a best few h hb hw
    exact zev_inr (by simp (disch := omega) only [st_X6_listen, gd_t, if_neg]; rfl)
  | succ d ih =>
    intro a best few h hb hw
    obtain ⟨v1, v2⟩ := hV a (by omega)
    have hfa : zR (fs + a) := ⟨by omega, by omega⟩
    have e9 : zR (-9) := by decide
    have i := ih (a + 1)
    rw [show ((a + 1 : Nat) : Int) = (a : Int) + 1 by omega] at i
    simp only [lst]
    have hx : zR (a : Int) := ⟨by omega, by omega⟩
    have hm : zR (mm : Int) := ⟨by omega, by omega⟩
    have hz : zin (a : Int) 100 := ⟨by omega, by omega⟩
    by_cases c1 : V a ≤ 0
    · rw [if_pos c1, ← i best few (by omega) hb hw]
      refine zev_inl ?_
      unfold st_X6_listen
      dsimp only
      rw [Int.toNat_natCast, v1, gd_t ⟨hx, hm⟩, if_pos (by omega), gd_t hz, gd_t v2, if_pos c1]
    · rw [if_neg c1]
      by_cases c2 : best = -9
      · rw [if_pos c2, ← i (fs + a) (V a) (by omega) hfa v2]
        refine zev_inl ?_
        unfold st_X6_listen
        dsimp only
        rw [Int.toNat_natCast, v1, gd_t ⟨hx, hm⟩, if_pos (by omega), gd_t hz, gd_t v2, if_neg c1, gd_t ⟨hb, e9⟩, if_pos c2, zlt_t, gd_t hz, zlt_t]
      · rw [if_neg c2]
        by_cases c3 : V a < few
        · rw [if_pos c3, ← i (fs + a) (V a) (by omega) hfa v2]
          refine zev_inl ?_
          unfold st_X6_listen
          dsimp only
          rw [Int.toNat_natCast, v1, gd_t ⟨hx, hm⟩, if_pos (by omega), gd_t hz, gd_t v2, if_neg c1, gd_t ⟨hb, e9⟩, if_neg c2, gd_t hz, gd_t ⟨v2, hw⟩, if_pos c3, zlt_t, gd_t hz, zlt_t]
        · rw [if_neg c3, ← i best few (by omega) hb hw]
          refine zev_inl ?_
          unfold st_X6_listen
          dsimp only
          rw [Int.toNat_natCast, v1, gd_t ⟨hx, hm⟩, if_pos (by omega), gd_t hz, gd_t v2, if_neg c1, gd_t ⟨hb, e9⟩, if_neg c2, gd_t hz, gd_t ⟨v2, hw⟩, if_neg c3]
theorem m_lst {mm : Nat} {V R : Nat → Int} {fs mth : Int} (hmm : (mm : Int) = min 100 (3000 - fs)) (hf : 0 ≤ fs) (hf2 : fs ≤ 3000) (hV : ∀ i : Nat, i < mm → zR (V i) ∧ ∀ Fr H N LU LD HU HD : Nat → Int, ∃ (l2 : Int) (F2 H2 N2 LU2 LD2 HU2 HD2 : Nat → Int), f_X7_leftBy (fs + i) R Fr H N LU LD HU HD = some (V i, l2, F2, H2, N2, LU2, LD2, HU2, HD2)) : ∀ (d a : Nat) (best few lev : Int) (Fr H N LU LD HU HD : Nat → Int), a + d = mm → zR best → zR few → ∃ (l2 : Int) (F2 H2 N2 LU2 LD2 HU2 HD2 : Nat → Int), zev (st_X7_listen R) (best, few, fs - 1, fs + a, mth, lev, Fr, H, N, LU, LD, HU, HD) = some (lst V fs d a best few, mth, l2, F2, H2, N2, LU2, LD2, HU2, HD2) := by
  intro d
  induction d with
  | zero =>
    intro a best few lev Fr H N LU LD HU HD h hb hw
    refine ⟨lev, Fr, H, N, LU, LD, HU, HD, zev_inr ?_⟩
    unfold st_X7_listen
    dsimp only
    rw [gd_t ⟨⟨by omega, by omega⟩, by omega, by omega⟩]
    by_cases c : fs + (a : Int) ≤ fs - 1 + 100
    · rw [if_pos c, gd_t ⟨⟨by omega, by omega⟩, by decide⟩, if_neg (by omega)]
      rfl
    · rw [if_neg c]
      rfl
  | succ d ih =>
    intro a best few lev Fr H N LU LD HU HD h hb hw
    obtain ⟨v2, hl⟩ := hV a (by omega)
    obtain ⟨l1, F1, H1, N1, LU1, LD1, HU1, HD1, el⟩ := hl Fr H N LU LD HU HD
    have hfa : zR (fs + a) := ⟨by omega, by omega⟩
    have e9 : zR (-9) := by decide
    have e29 : zR 2999 := by decide
    have hl1 : zR (fs - 1 + 100) := ⟨by omega, by omega⟩
    simp only [lst]
    have hst : ∀ best2 few2 : Int, zR best2 → zR few2 → st_X7_listen R (best, few, fs - 1, fs + a, mth, lev, Fr, H, N, LU, LD, HU, HD) = some (.inl (best2, few2, fs - 1, fs + a + 1, mth, l1, F1, H1, N1, LU1, LD1, HU1, HD1)) → ∃ (l2 : Int) (F2 H2 N2 LU2 LD2 HU2 HD2 : Nat → Int), zev (st_X7_listen R) (best, few, fs - 1, fs + a, mth, lev, Fr, H, N, LU, LD, HU, HD) = some (lst V fs d (a + 1) best2 few2, mth, l2, F2, H2, N2, LU2, LD2, HU2, HD2) := by
      intro best2 few2 q1 q2 e
      have i := ih (a + 1) best2 few2 l1 F1 H1 N1 LU1 LD1 HU1 HD1 (by omega) q1 q2
      rw [show fs + ((a + 1 : Nat) : Int) = fs + (a : Int) + 1 by omega] at i
      rw [zev_inl e]
      exact i
    have hev : ∀ X : Option ((Int × Int × Int × Int × Int × Int × (Nat → Int) × (Nat → Int) × (Nat → Int) × (Nat → Int) × (Nat → Int) × (Nat → Int) × (Nat → Int)) ⊕ (Int × Int × Int × (Nat → Int) × (Nat → Int) × (Nat → Int) × (Nat → Int) × (Nat → Int) × (Nat → Int) × (Nat → Int))), (if V a ≤ 0 then some (.inl (best, few, fs - 1, fs + (a : Int) + 1, mth, l1, F1, H1, N1, LU1, LD1, HU1, HD1)) else if best = -9 then some (.inl (fs + (a : Int), V a, fs - 1, fs + (a : Int) + 1, mth, l1, F1, H1, N1, LU1, LD1, HU1, HD1)) else if V a < few then some (.inl (fs + (a : Int), V a, fs - 1, fs + (a : Int) + 1, mth, l1, F1, H1, N1, LU1, LD1, HU1, HD1)) else some (.inl (best, few, fs - 1, fs + (a : Int) + 1, mth, l1, F1, H1, N1, LU1, LD1, HU1, HD1))) = X → st_X7_listen R (best, few, fs - 1, fs + a, mth, lev, Fr, H, N, LU, LD, HU, HD) = X := by
      intro X hX
      rw [← hX]
      unfold st_X7_listen
      dsimp only
      rw [gd_t ⟨hfa, hl1⟩, if_pos (by omega), gd_t ⟨hfa, e29⟩, if_pos (by omega), el, Option.bind_some]
      dsimp only
      rw [gd_t v2]
      by_cases c1 : V a ≤ 0
      · rw [if_pos c1, if_pos c1]
      · rw [if_neg c1, if_neg c1, gd_t ⟨hb, e9⟩]
        by_cases c2 : best = -9
        · rw [if_pos c2, if_pos c2]
        · rw [if_neg c2, if_neg c2, gd_t ⟨v2, hw⟩]
    by_cases c1 : V a ≤ 0
    · rw [if_pos c1]
      exact hst best few hb hw (hev _ (by rw [if_pos c1]))
    · rw [if_neg c1]
      by_cases c2 : best = -9
      · rw [if_pos c2]
        exact hst _ _ hfa v2 (hev _ (by rw [if_neg c1, if_pos c2]))
      · rw [if_neg c2]
        by_cases c3 : V a < few
        · rw [if_pos c3]
          exact hst _ _ hfa v2 (hev _ (by rw [if_neg c1, if_neg c2, if_pos c3]))
        · rw [if_neg c3]
          exact hst _ _ hb hw (hev _ (by rw [if_neg c1, if_neg c2, if_neg c3]))
