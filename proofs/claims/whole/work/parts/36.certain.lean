/-! PURE: certain, count -/
def clr (m : Int) (a : Nat) : Int := zAnd m (zXor (zShl 1 (a : Int)) (-1))
def msk (a : Nat) : Int := 2 ^ a - 1
def crow (f w : List Int) : Nat → Nat → Int → Int
  | 0, _, m => m
  | d + 1, a, m => crow f w d (a + 1) (if nth w a = nth f a then m else clr m a)
def call (f : List Int) (k : Nat) : List (List Int × zB) → Int → Int
  | [], m => m
  | w :: r, m => call f k r (crow f w.1 k 0 m)
def cert (k : Nat) : List (List Int × zB) → Int
  | [] => 0
  | w :: r => call w.1 k r (msk k)
def zJ (m : Int) : Prop := ∃ y : Int32, m = y.toInt
theorem zAnd_self {m : Int} (h : zJ m) : zAnd m m = m := by
  obtain ⟨y, rfl⟩ := h
  unfold zAnd
  rw [zI_of, Int32.and_self]
theorem zJ_clr (m : Int) (a : Nat) : zJ (clr m a) := ⟨_, rfl⟩
theorem msk_or : ∀ a : Nat, a < 7 → zOr (msk a) (zShl 1 (a : Int)) = msk (a + 1) := by decide +kernel
theorem msk_and : ∀ a : Nat, a < 8 → zAnd (msk a) (msk a) = msk a := by decide +kernel
theorem msk_shl : ∀ a : Nat, a < 8 → zShl 1 (a : Int) - 1 = msk a := by decide +kernel
theorem zJ_msk (a : Nat) (h : a < 8) : zJ (msk a) := ⟨_, (msk_and a h).symm⟩
theorem zJ_crow (f w : List Int) : ∀ (d a : Nat) (m : Int), zJ m → zJ (crow f w d a m) := by
  intro d
  induction d with
  | zero => intro a m h; exact h
  | succ d ih =>
    intro a m h
    refine ih (a + 1) _ ?_
    by_cases e : nth w a = nth f a
    · rw [if_pos e]; exact h
    · rw [if_neg e]; exact zJ_clr m a
theorem c_cert2 {k : Nat} (hk7 : k ≤ 7) {f w : List Int} {nT nN nG nLU nLL nHU nHL fF : Nat → Int} {x2 nz nr nb ne : Int} (hN : ∀ i : Nat, i < k → nN i = nth w i ∧ zR (nth w i)) (hF : ∀ i : Nat, i < k → fF i = nth f i ∧ zR (nth f i)) : ∀ (d a : Nat) (m : Int), a + d = k → zev (st_X6_certain (k : Int)) (2, m, x2, (a : Int), nz, nr, nb, ne, nT, nN, nG, nLU, nLL, nHU, nHL, fF) = zev (st_X6_certain (k : Int)) (1, crow f w d a m, x2 + 1, 0, nz, nr, nb, ne, nT, nN, nG, nLU, nLL, nHU, nHL, fF) := by
  intro d
  induction d with
  | zero =>
    intro a m h
    exact zev_inl (by simp (disch := omega) only [st_X6_certain, gd_t, if_neg]; rfl)
  | succ d ih =>
    intro a m h
    have i := ih (a + 1)
    rw [show ((a + 1 : Nat) : Int) = (a : Int) + 1 by omega] at i
    obtain ⟨n1, n2⟩ := hN a (by omega)
    obtain ⟨f1, f2⟩ := hF a (by omega)
    obtain ⟨n3, n4⟩ := n2
    obtain ⟨f3, f4⟩ := f2
    by_cases e : nth w a = nth f a
    · have : crow f w (d + 1) a m = crow f w d (a + 1) m := by
        show crow f w d (a + 1) _ = _
        rw [if_pos e]
      rw [this, ← i m (by omega)]
      exact zev_inl (by simp (disch := omega) only [st_X6_certain, gd_t, if_pos, Int.toNat_natCast, n1, f1])
    · have : crow f w (d + 1) a m = crow f w d (a + 1) (clr m a) := by
        show crow f w d (a + 1) _ = _
        rw [if_neg e]
      rw [this, ← i (clr m a) (by omega)]
      exact zev_inl (by simp (disch := omega) only [st_X6_certain, gd_t, if_pos, if_neg, Int.toNat_natCast, n1, f1, zlt_t]; rfl)
theorem c_cert1 {k : Nat} {t nT : Nat → Int} {s lo hi : Int} {f : List Int} {fF : Nat → Int} (C : zCt k t s lo hi) (hk : 0 < k) (hF : ∀ i : Nat, i < k → fF i = nth f i ∧ zR (nth f i)) : ∀ (L : List (List Int × zB)) (j : Nat) (m nb ne : Int) (nN nG nLU nLL nHU nHL : Nat → Int), cIt k t s lo hi nb ne nT nN nG nLU nLL nHU nHL L → j + L.length ≤ 3000 → (∀ w ∈ L, ∀ i : Nat, i < k → zR (nth w.1 i)) → ∃ (b2 e2 : Int) (N2 G2 LU LL HU HL : Nat → Int), zev (st_X6_certain (k : Int)) (1, m, (j : Int), 0, (k : Int), s, nb, ne, nT, nN, nG, nLU, nLL, nHU, nHL, fF) = some (call f k L m, (k : Int), s, b2, e2, nT, N2, G2, LU, LL, HU, HL, fF) := by
  intro L
  induction L with
  | nil =>
    intro j m nb ne nN nG nLU nLL nHU nHL hI hj _
    obtain ⟨⟨r0, b1, e1, N1, G1, LU1, LL1, HU1, HL1⟩, en, hn⟩ := e_next C (Or.inl hk) hI
    rcases hn with ⟨hr, -, -⟩ | ⟨hr, z, rest, hL, -⟩
    · have hr : r0 = 0 := hr
      subst hr
      exact ⟨b1, e1, N1, G1, LU1, LL1, HU1, HL1, zev_inr (by simp (disch := omega) only [st_X6_certain, gd_t, if_pos, if_true, en, Option.bind_some]; rfl)⟩
    · cases hL
  | cons w L ih =>
    intro j m nb ne nN nG nLU nLL nHU nHL hI hj hw
    rw [List.length_cons] at hj
    obtain ⟨⟨r0, b1, e1, N1, G1, LU1, LL1, HU1, HL1⟩, en, hn⟩ := e_next C (Or.inl hk) hI
    rcases hn with ⟨hr, hL, -⟩ | ⟨hr, z, rest, hL, p1, p2, hI2⟩
    · cases hL
    · have hr : r0 = 1 := hr
      subst hr
      have hz : w = z := (List.cons.inj hL).1
      have hrest : L = rest := (List.cons.inj hL).2
      subst hz
      subst hrest
      have p1 : pre N1 k = w.1 := p1
      have s1 : zev (st_X6_certain (k : Int)) (1, m, (j : Int), 0, (k : Int), s, nb, ne, nT, nN, nG, nLU, nLL, nHU, nHL, fF) = zev (st_X6_certain (k : Int)) (2, m, (j : Int), 0, (k : Int), s, b1, e1, nT, N1, G1, LU1, LL1, HU1, HL1, fF) := zev_inl (by simp (disch := omega) only [st_X6_certain, gd_t, if_pos, if_neg, en, Option.bind_some])
      have s2 := c_cert2 (k := k) (f := f) (w := w.1) (nT := nT) (nN := N1) (nG := G1) (nLU := LU1) (nLL := LL1) (nHU := HU1) (nHL := HL1) (fF := fF) (x2 := (j : Int)) (nz := (k : Int)) (nr := s) (nb := b1) (ne := e1) C.1 (fun i hik => ⟨by rw [← p1, pre_nth N1 k i hik], hw w List.mem_cons_self i hik⟩) hF k 0 m (by omega)
      rw [show ((0 : Nat) : Int) = 0 by rfl] at s2
      have i := ih (j + 1) (crow f w.1 k 0 m) b1 e1 N1 G1 LU1 LL1 HU1 HL1 hI2 (by omega) (fun v hv => hw v (List.mem_cons_of_mem _ hv))
      rw [show ((j + 1 : Nat) : Int) = (j : Int) + 1 by omega, ← s2, ← s1] at i
      exact i
theorem c_cert0 {k : Nat} (hk7 : k ≤ 7) {w : List Int} {nT nN nG nLU nLL nHU nHL : Nat → Int} {m nz nr nb ne : Int} (hN : ∀ i : Nat, i < k → nN i = nth w i) : ∀ (d a : Nat) (fF : Nat → Int), a + d = k → (∀ i : Nat, i < a → fF i = nth w i) → ∃ fF2 : Nat → Int, (∀ i : Nat, i < k → fF2 i = nth w i) ∧ zev (st_X6_certain (k : Int)) (0, m, (a : Int), 0, nz, nr, nb, ne, nT, nN, nG, nLU, nLL, nHU, nHL, fF) = zev (st_X6_certain (k : Int)) (1, m, 0, 0, nz, nr, nb, ne, nT, nN, nG, nLU, nLL, nHU, nHL, fF2) := by
  intro d
  induction d with
  | zero =>
    intro a fF h hf
    exact ⟨fF, fun i hik => hf i (by omega), zev_inl (by simp (disch := omega) only [st_X6_certain, gd_t, if_neg])⟩
  | succ d ih =>
    intro a fF h hf
    obtain ⟨fF2, g1, g2⟩ := ih (a + 1) (zup fF (a : Int) (nN a)) (by omega) (fun i hia => by
      by_cases e : i = a
      · rw [zup_s (by omega), e]; exact hN a (by omega)
      · rw [zup_n (by omega)]; exact hf i (by omega))
    refine ⟨fF2, g1, ?_⟩
    rw [← g2, show ((a + 1 : Nat) : Int) = (a : Int) + 1 by omega]
    exact zev_inl (by simp (disch := omega) only [st_X6_certain, gd_t, if_pos, Int.toNat_natCast])
theorem tA_zR {k : Nat} {t : Nat → Int} {s lo hi : Int} (C : zCt k t s lo hi) : ∀ w ∈ tA k t s lo hi, ∀ i : Nat, i < k → 0 ≤ nth w.1 i ∧ nth w.1 i ≤ 320 := by
  intro w hw i hik
  obtain ⟨p, hp⟩ := List.mem_iff_getElem?.mp hw
  obtain ⟨k0, kI, kl⟩ := tA_mem C hp
  have := tI_nth kI (show i < w.1.length by omega)
  have := kI.2.2.2.1
  omega
theorem e_certain (nz nr nb ne : Int) (nT nN nG nLU nLL nHU nHL fF : Nat → Int) {z lo hi sl : Int} {T : Nat → Int} (h : zHear z lo hi sl T) : ∃ (z2 s2 b2 e2 : Int) (T2 N2 G2 LU LL HU HL F2 : Nat → Int), f_X6_certain z lo hi sl T nz nr nb ne nT nN nG nLU nLL nHU nHL fF = some (cert z.toNat (tA z.toNat T (2 * sl) lo hi), z2, s2, b2, e2, T2, N2, G2, LU, LL, HU, HL, F2) := by
  have C := zCt_of h
  have hz : ((z.toNat : Nat) : Int) = z := by have := h.1; omega
  have hz7 : z.toNat ≤ 7 := C.1
  obtain ⟨b1, e1, T1, N1, LU1, LL1, HU1, HL1, eb, hI, hk⟩ := e_begin nz nr nb ne nT nN nG nLU nLL nHU nHL h
  have hlen := tA_len C
  have hbd := tA_zR C
  have hm : ∀ w, w ∈ tA z.toNat T (2 * sl) lo hi → 0 < z.toNat := fun w hw => by
    obtain ⟨p, hp⟩ := List.mem_iff_getElem?.mp hw
    exact (tA_mem C hp).1
  obtain ⟨⟨r0, b2, e2, N2, G2, LU2, LL2, HU2, HL2⟩, en, hn⟩ := e_next C hk hI
  rw [hz] at en
  unfold f_X6_certain
  rw [eb, Option.bind_some]
  dsimp only
  rw [en, Option.bind_some]
  dsimp only
  rcases hn with ⟨hr, hL, -⟩ | ⟨hr, w, rest, hL, p1, p2, hI2⟩
  · have hr : r0 = 0 := hr
    subst hr
    rw [gd_t zR0, if_pos rfl, hL]
    exact ⟨z, 2 * sl, b2, e2, T1, N2, G2, LU2, LL2, HU2, HL2, fF, rfl⟩
  · have hr : r0 = 1 := hr
    subst hr
    have p1 : pre N2 z.toNat = w.1 := p1
    rw [hL] at hbd hlen hm
    rw [List.length_cons] at hlen
    have hk0 := hm w List.mem_cons_self
    rw [gd_t zRone, if_neg (by omega), zlt_t, hL]
    have e1 : zShl 1 z - 1 = msk z.toNat := by
      have := msk_shl z.toNat (by omega)
      rw [hz] at this
      exact this
    rw [e1]
    obtain ⟨F2, g1, g2⟩ := c_cert0 (k := z.toNat) (w := w.1) (nT := T1) (nN := N2) (nG := G2) (nLU := LU2) (nLL := LL2) (nHU := HU2) (nHL := HL2) (m := msk z.toNat) (nz := z) (nr := 2 * sl) (nb := b2) (ne := e2) hz7 (fun i hik => by rw [← p1, pre_nth N2 _ _ hik]) z.toNat 0 fF (by omega) (fun i hi0 => by omega)
    have hwb : ∀ i : Nat, i < z.toNat → zR (nth w.1 i) := fun i hik => by
      have := hbd w List.mem_cons_self i hik
      exact ⟨by omega, by omega⟩
    obtain ⟨b3, e3, N3, G3, LU3, LL3, HU3, HL3, g3⟩ := c_cert1 (fF := F2) (f := w.1) C hk0 (fun i hik => ⟨g1 i hik, hwb i hik⟩) rest 0 (msk z.toNat) b2 e2 N2 G2 LU2 LL2 HU2 HL2 hI2 (by omega) (fun v hv i hik => by
      have := hbd v (List.mem_cons_of_mem _ hv) i hik
      exact ⟨by omega, by omega⟩)
    rw [hz] at g2 g3
    rw [show ((0 : Nat) : Int) = 0 by rfl] at g2 g3
    rw [g2, g3]
    exact ⟨_, _, _, _, _, _, _, _, _, _, _, _, rfl⟩
