/-! PURE: the class goes through the tree -/
theorem fr_trl2 {a b c d e f : Int} (hb : 0 < b) (hd : 0 < d) (hf : 0 < f) (h : c * b ≤ a * d) (x : a * f < e * b) : c * f < e * d := by
  have x1 : c * b * f ≤ a * d * f := Int.mul_le_mul_of_nonneg_right h (by omega)
  have x2 : a * f * d < e * b * d := Int.mul_lt_mul_of_pos_right x hd
  have y1 : c * b * f = c * f * b := by ac_rfl
  have y2 : a * d * f = a * f * d := by ac_rfl
  have y3 : e * b * d = e * d * b := by ac_rfl
  exact Int.lt_of_mul_lt_mul_right (a := b) (by omega) (by omega)
def tF (t : Nat → Int) (s : Int) (d : Nat) (ν : List Int) (b : zB) (n : Int) : List (List Int × zB) := if bemp (tb t s ν b n) = true then [] else tE t s d (ν ++ [n]) (tb t s ν b n)
def tG (t : Nat → Int) (s : Int) (d : Nat) (ν : List Int) (b : zB) (n : Int) : Nat := 1 + (if bemp (tb t s ν b n) = true then 0 else tC t s d (ν ++ [n]) (tb t s ν b n))
theorem cands_cons {m G : Int} (h : m < G) : cands (G - m).toNat m = (m + 1) :: cands (G - (m + 1)).toNat (m + 1) := by
  rw [show (G - m).toNat = (G - (m + 1)).toNat + 1 by omega]
  rfl
theorem cands_nil {m G : Int} (h : G ≤ m) : cands (G - m).toNat m = [] := by
  rw [show (G - m).toNat = 0 by omega]
  rfl
theorem cands_skip {β : Type} (f : Int → List β) (G : Int) : ∀ (c : Nat) (m : Int), (∀ n : Int, m < n → n ≤ m + c → n ≤ G → f n = []) → (cands (G - m).toNat m).flatMap f = (cands (G - (m + c)).toNat (m + c)).flatMap f := by
  intro c
  induction c with
  | zero => intro m _; rw [show m + ((0 : Nat) : Int) = m by omega]
  | succ c ih =>
    intro m h
    by_cases hm : m < G
    · rw [cands_cons hm, List.flatMap_cons, h (m + 1) (by omega) (by omega) (by omega), List.nil_append, ih (m + 1) (fun n h1 h2 h3 => h n (by omega) (by omega) h3)]
      rw [show m + 1 + (c : Int) = m + ((c + 1 : Nat) : Int) by omega]
    · rw [cands_nil (by omega), cands_nil (by omega)]
theorem tb_small {k : Nat} {t : Nat → Int} {s lo hi n : Int} {ν : List Int} {b : zB} (C : zCt k t s lo hi) (h : tI t s lo hi ν b) (hl : ν.length < k) (h1 : tN ν < n) (h2 : n ≤ bG b (t ν.length - t 0) s) (h3 : n < bL b (t ν.length - t 0) s) : bemp (tb t s ν b n) = true := by
  obtain ⟨hn, hA, hT⟩ := tI_bd C h hl h1 h2
  have h' := h
  obtain ⟨l0, l1, l2, l3, b1, b2, b3, b4, b5⟩ := h'
  have c2 : 0 ≤ s := C.2.1
  obtain ⟨i1, i2, i3⟩ := bfold_ok (ν := ν ++ [n]) b1 c2 hA hT ν.length (Nat.le_refl _)
  have hn0 : 0 < n := by
    have := tI_nth h (show 0 < ν.length by omega)
    omega
  have g : ¬ (t ν.length - t 0 - s) * b.2.2.2 ≤ n * b.2.2.1 := fun q => absurd ((bL_iff (ap := t ν.length - t 0) (s := s) b1 (by omega)).mpr q) (by omega)
  have f0 := (i3 0 l0).1
  rw [nth_e, nth_l l0, l1, Int.sub_zero] at f0
  obtain ⟨q1, -, q2, -, q3, -, q4, -⟩ := b1
  obtain ⟨p1, -, p2, -, p3, -, p4, -⟩ := i1
  have x := fr_trl (a := b.2.2.1) (b := b.2.2.2) (c := t ν.length - t 0 - s) (d := n) (e := (tb t s ν b n).1) (f := (tb t s ν b n).2.1) q4 hn0 p2 (by rw [Int.mul_comm b.2.2.1 n]; omega) f0
  have y := fr_trl2 (a := b.2.2.1) (b := b.2.2.2) (c := (tb t s ν b n).2.2.1) (d := (tb t s ν b n).2.2.2) (e := (tb t s ν b n).1) (f := (tb t s ν b n).2.1) q4 p4 p2 i2.2 x
  unfold bemp
  exact decide_eq_true y
theorem tE_skip {k : Nat} {t : Nat → Int} {s lo hi : Int} {ν : List Int} {b : zB} (C : zCt k t s lo hi) (h : tI t s lo hi ν b) (hl : ν.length < k) (d : Nat) : tE t s (d + 1) ν b = (cands (bG b (t ν.length - t 0) s - tM t s ν b).toNat (tM t s ν b)).flatMap (tF t s d ν b) := by
  have e := cands_skip (tF t s d ν b) (bG b (t ν.length - t 0) s) (tM t s ν b - tN ν).toNat (tN ν) (fun n h1 h2 h3 => by
    unfold tF
    rw [if_pos]
    refine tb_small C h hl h1 h3 ?_
    unfold tM at h2
    omega)
  have em : tN ν + ((tM t s ν b - tN ν).toNat : Int) = tM t s ν b := by
    have : tN ν ≤ tM t s ν b := by unfold tM; omega
    omega
  rw [em] at e
  exact e
def cR (t : Nat → Int) (s : Int) (k : Nat) (N : Nat → Int) (B : Nat → zB) : Nat → List (List Int × zB)
  | 0 => []
  | a + 1 => (cands (bG (B a) (t (a + 1) - t 0) s - N (a + 1)).toNat (N (a + 1))).flatMap (tF t s (k - (a + 2)) (pre N (a + 1)) (B a)) ++ cR t s k N B a
def cC (t : Nat → Int) (s : Int) (k : Nat) (N : Nat → Int) (B : Nat → zB) : Nat → Nat
  | 0 => 0
  | a + 1 => ((cands (bG (B a) (t (a + 1) - t 0) s - N (a + 1)).toNat (N (a + 1))).map (tG t s (k - (a + 2)) (pre N (a + 1)) (B a))).sum + 1 + cC t s k N B a
theorem cR_congr {t : Nat → Int} {s : Int} {k : Nat} {N N2 : Nat → Int} {B B2 : Nat → zB} : ∀ a : Nat, (∀ i : Nat, i ≤ a → N i = N2 i) → (∀ i : Nat, i < a → B i = B2 i) → cR t s k N B a = cR t s k N2 B2 a ∧ cC t s k N B a = cC t s k N2 B2 a := by
  intro a
  induction a with
  | zero => intro _ _; exact ⟨rfl, rfl⟩
  | succ a ih =>
    intro h1 h2
    obtain ⟨i1, i2⟩ := ih (fun i hi => h1 i (by omega)) (fun i hi => h2 i (by omega))
    simp only [cR, cC]
    rw [i1, i2, h1 (a + 1) (Nat.le_refl _), h2 a (by omega), pre_congr (a + 1) (fun i hi => h1 i (by omega))]
    exact ⟨rfl, rfl⟩
/-- the next number at an arrival is tried -/
theorem cR_step {t : Nat → Int} {s : Int} {k a : Nat} {N N2 : Nat → Int} {B B2 : Nat → zB} (ha : 0 < a) (hlt : N a < bG (B (a - 1)) (t a - t 0) s) (hN : N2 a = N a + 1) (h1 : ∀ i : Nat, i < a → N2 i = N i) (h2 : ∀ i : Nat, i < a → B2 i = B i) : cR t s k N B a = tF t s (k - (a + 1)) (pre N a) (B (a - 1)) (N a + 1) ++ cR t s k N2 B2 a ∧ cC t s k N B a = tG t s (k - (a + 1)) (pre N a) (B (a - 1)) (N a + 1) + cC t s k N2 B2 a := by
  obtain ⟨c, rfl⟩ : ∃ c, a = c + 1 := ⟨a - 1, by omega⟩
  rw [Nat.add_sub_cancel] at hlt ⊢
  obtain ⟨i1, i2⟩ := cR_congr (t := t) (s := s) (k := k) (N := N2) (N2 := N) (B := B2) (B2 := B) c (fun i hi => h1 i (by omega)) (fun i hi => h2 i (by omega))
  have ep : pre N2 (c + 1) = pre N (c + 1) := pre_congr (c + 1) (fun i hi => h1 i hi)
  simp only [cR, cC]
  rw [i1, i2, ep, h2 c (by omega), hN, cands_cons hlt, List.flatMap_cons, List.map_cons, List.sum_cons]
  rw [show k - (c + 1 + 1) = k - (c + 2) by omega]
  refine ⟨?_, by omega⟩
  rw [List.append_assoc]
/-- where the class stands: at arrival a, with numbers for those ahead -/
def cV (t : Nat → Int) (s lo hi : Int) (N : Nat → Int) (B : Nat → zB) (a : Nat) : Prop := (∀ i : Nat, i < a → tI t s lo hi (pre N (i + 1)) (B i)) ∧ (0 < a → N (a - 1) ≤ N a ∧ N a ≤ 3000000)
theorem bG_bd {k : Nat} {t : Nat → Int} {s lo hi : Int} {ν : List Int} {b : zB} {a : Nat} (C : zCt k t s lo hi) (h : tI t s lo hi ν b) (hak : a < k) (ha : 0 < a) : 0 ≤ bG b (t a - t 0) s ∧ bG b (t a - t 0) s ≤ 1600000 := by
  obtain ⟨c1, c2, c3, c4, c5, c6, c7, c8, c9⟩ := C
  obtain ⟨b1, b2, b3, b4, -⟩ := h.2.2.2.2.1
  have u1 := c8 a hak
  have u2 := c8 0 (by omega)
  have u3 := c9 0 a ha hak
  have p1 := zm_bd (x := t a - t 0 + s) (y := b.2.1) (by omega) (by omega) (by omega) b4
  have p2 : 0 ≤ (t a - t 0 + s) * b.2.1 := Int.mul_nonneg (by omega) (by omega)
  unfold bG
  have q1 := Int.ediv_le_self b.1 p2
  have q2 := Int.ediv_nonneg p2 (show 0 ≤ b.1 by omega)
  omega
theorem bL_bd {k : Nat} {t : Nat → Int} {s lo hi : Int} {ν : List Int} {b : zB} {a : Nat} (C : zCt k t s lo hi) (h : tI t s lo hi ν b) (hak : a < k) (ha : 0 < a) : bL b (t a - t 0) s ≤ 1700000 := by
  obtain ⟨c1, c2, c3, c4, c5, c6, c7, c8, c9⟩ := C
  obtain ⟨b1, b2, b3, b4, b5, b6, b7, b8⟩ := h.2.2.2.2.1
  have u1 := c8 a hak
  have u2 := c8 0 (by omega)
  have u3 := c9 0 a ha hak
  unfold bL
  by_cases hc : t a - t 0 ≤ s
  · rw [if_pos hc]; omega
  · rw [if_neg hc]
    have p1 := zm_bd (x := t a - t 0 - s) (y := b.2.2.2) (by omega) (by omega) (by omega) b8
    have p2 : 0 ≤ (t a - t 0 - s) * b.2.2.2 := Int.mul_nonneg (by omega) (by omega)
    have q1 := Int.ediv_le_self b.2.2.1 (show 0 ≤ (t a - t 0 - s) * b.2.2.2 + b.2.2.1 - 1 by omega)
    omega
/-- what the class has found, and what is left of the tree -/
def cOut (t : Nat → Int) (s lo hi : Int) (k : Nat) (L0 : List (List Int × zB)) (K0 : Nat) (r : Int × (Nat → Int) × (Nat → Int) × (Nat → Int) × (Nat → Int) × (Nat → Int) × (Nat → Int)) : Prop :=
  (r.1 = 0 ∧ L0 = []) ∨ (r.1 = 1 ∧ ∃ z rest, L0 = z :: rest ∧ pre r.2.1 k = z.1 ∧ bx r.2.2.2.1 r.2.2.2.2.1 r.2.2.2.2.2.1 r.2.2.2.2.2.2 (k - 1) = z.2 ∧ cV t s lo hi r.2.1 (bx r.2.2.2.1 r.2.2.2.2.1 r.2.2.2.2.2.1 r.2.2.2.2.2.2) (k - 1) ∧ (∀ i : Nat, 0 < i → i < k → r.2.2.1 i = bG (bx r.2.2.2.1 r.2.2.2.2.1 r.2.2.2.2.2.1 r.2.2.2.2.2.2 (i - 1)) (t i - t 0) s) ∧ cR t s k r.2.1 (bx r.2.2.2.1 r.2.2.2.2.1 r.2.2.2.2.2.1 r.2.2.2.2.2.2) (k - 1) = rest ∧ cC t s k r.2.1 (bx r.2.2.2.1 r.2.2.2.2.1 r.2.2.2.2.2.1 r.2.2.2.2.2.2) (k - 1) ≤ K0)
theorem e_search {k : Nat} {t nT nN nG nLU nLL nHU nHL : Nat → Int} {s lo hi : Int} {a : Nat} {L0 : List (List Int × zB)} {K0 : Nat} (C : zCt k t s lo hi) (hT : ∀ i : Nat, i < k → nT i = t i) (ha : a < k) (hK0 : K0 < 1000000) (hv : cV t s lo hi nN (bx nLU nLL nHU nHL) a) (hG : ∀ i : Nat, 0 < i → i ≤ a → nG i = bG (bx nLU nLL nHU nHL (i - 1)) (t i - t 0) s) (hR : cR t s k nN (bx nLU nLL nHU nHL) a = L0) (hC : cC t s k nN (bx nLU nLL nHU nHL) a ≤ K0) : ∃ r, f_X2_search (a : Int) (k : Int) s nT nN nG nLU nLL nHU nHL = some r ∧ cOut t s lo hi k L0 K0 r := by
  have hk7 : k ≤ 7 := C.1
  unfold f_X2_search
  exact zwhile (st := st_X2_search (k : Int) s nT) (fun v => ∃ a : Nat, v.1 = (a : Int) ∧ a < k ∧ cV t s lo hi v.2.2.1 (bx v.2.2.2.2.1 v.2.2.2.2.2.1 v.2.2.2.2.2.2.1 v.2.2.2.2.2.2.2) a ∧ (∀ i : Nat, 0 < i → i ≤ a → v.2.2.2.1 i = bG (bx v.2.2.2.2.1 v.2.2.2.2.2.1 v.2.2.2.2.2.2.1 v.2.2.2.2.2.2.2 (i - 1)) (t i - t 0) s) ∧ cR t s k v.2.2.1 (bx v.2.2.2.2.1 v.2.2.2.2.2.1 v.2.2.2.2.2.2.1 v.2.2.2.2.2.2.2) a = L0 ∧ 0 ≤ v.2.1 ∧ v.2.1 + (cC t s k v.2.2.1 (bx v.2.2.2.2.1 v.2.2.2.2.2.1 v.2.2.2.2.2.2.1 v.2.2.2.2.2.2.2) a : Int) ≤ (K0 : Int)) (fun v => (1000000 - v.2.1).toNat) (cOut t s lo hi k L0 K0) (by
    rintro ⟨x, y, N, G, LU, LL, HU, HL⟩ ⟨a, g1, g2, g3, g4, g5, g6, g7⟩
    dsimp only at g1 g3 g4 g5 g6 g7
    subst g1
    by_cases ha0 : a = 0
    · subst ha0
      exact Or.inl ⟨(0, N, G, LU, LL, HU, HL), by simp (disch := omega) only [st_X2_search, gd_t, if_pos], Or.inl ⟨rfl, g5.symm⟩⟩
    · have hI := g3.1 (a - 1) (by omega)
      rw [show a - 1 + 1 = a by omega] at hI
      obtain ⟨v1, v2⟩ := g3.2 (by omega)
      have hGa := g4 a (by omega) (Nat.le_refl a)
      obtain ⟨G0, G1⟩ := bG_bd (a := a) C hI g2 (by omega)
      have hN0 := tI_nth hI (show a - 1 < (pre N a).length by rw [pre_len]; omega)
      rw [pre_nth N a (a - 1) (by omega)] at hN0
      have hCpos : 0 < cC t s k N (bx LU LL HU HL) a := by
        obtain ⟨c, rfl⟩ : ∃ c, a = c + 1 := ⟨a - 1, by omega⟩
        simp only [cC]
        omega
      by_cases hlt : N a < G a
      · -- one number more
        have ep : pre (zup N (a : Int) (N a + 1)) a = pre N a := pre_congr a (fun i hi => zup_n (by omega))
        have en : zup N (a : Int) (N a + 1) a = N a + 1 := zup_s (by omega)
        have en1 : zup N (a : Int) (N a + 1) (a - 1) = N (a - 1) := zup_n (by omega)
        obtain ⟨r, LU2, LL2, HU2, HL2, ef, fo, fr⟩ := e_fits (nN := zup N (a : Int) (N a + 1)) (nLU := LU) (nLL := LL) (nHU := HU) (nHL := HL) (nT := nT) C (by omega) g2 hT (by rw [ep]; exact hI) (by rw [en, en1]; omega) (by rw [en]; omega)
        rw [ep, en] at fr
        obtain ⟨s1, s2⟩ := cR_step (k := k) (N := N) (N2 := zup N (a : Int) (N a + 1)) (B := bx LU LL HU HL) (B2 := bx LU2 LL2 HU2 HL2) (t := t) (s := s) (a := a) (by omega) (by omega) (zup_s (by omega)) (fun i hi => zup_n (by omega)) (fun i hi => fo i (by omega))
        have hb320 := (tI_bd (n := N a + 1) C hI (by rw [pre_len]; exact g2) (by rw [pre_tN N (by omega)]; omega) (by rw [pre_len]; omega)).1
        have hvn : ∀ i : Nat, i < a → tI t s lo hi (pre (zup N (a : Int) (N a + 1)) (i + 1)) (bx LU2 LL2 HU2 HL2 i) := by
          intro i hi
          rw [fo i (by omega), pre_congr (N2 := N) (i + 1) (fun j hj => zup_n (by omega))]
          exact g3.1 i hi
        have hGn : ∀ i : Nat, 0 < i → i ≤ a → G i = bG (bx LU2 LL2 HU2 HL2 (i - 1)) (t i - t 0) s := by
          intro i h1 h2
          rw [fo (i - 1) (by omega)]
          exact g4 i h1 h2
        rcases fr with ⟨rfl, he, hbx⟩ | ⟨rfl, he⟩
        · have e1 : tF t s (k - (a + 1)) (pre N a) (bx LU LL HU HL (a - 1)) (N a + 1) = tE t s (k - (a + 1)) (pre N a ++ [N a + 1]) (tb t s (pre N a) (bx LU LL HU HL (a - 1)) (N a + 1)) := by
            unfold tF
            rw [if_neg (by rw [he]; exact Bool.false_ne_true)]
          have e2 : tG t s (k - (a + 1)) (pre N a) (bx LU LL HU HL (a - 1)) (N a + 1) = 1 + tC t s (k - (a + 1)) (pre N a ++ [N a + 1]) (tb t s (pre N a) (bx LU LL HU HL (a - 1)) (N a + 1)) := by
            unfold tG
            rw [if_neg (by rw [he]; exact Bool.false_ne_true)]
          have epa : pre (zup N (a : Int) (N a + 1)) (a + 1) = pre N a ++ [N a + 1] := by
            show pre _ a ++ [_] = _
            rw [ep, en]
          by_cases hl : a = k - 1
          · -- a numbering
            refine Or.inl ⟨(1, zup N (a : Int) (N a + 1), G, LU2, LL2, HU2, HL2), ?_, Or.inr ⟨rfl, (pre N a ++ [N a + 1], tb t s (pre N a) (bx LU LL HU HL (a - 1)) (N a + 1)), cR t s k (zup N (a : Int) (N a + 1)) (bx LU2 LL2 HU2 HL2) a, ?_, ?_, ?_, ?_, ?_, ?_, ?_⟩⟩
            · simp (disch := omega) only [st_X2_search, gd_t, if_pos, if_neg, Int.toNat_natCast, ef, Option.bind_some]
            · rw [← g5, s1, e1, show k - (a + 1) = 0 by omega]
              rfl
            · show pre _ k = _
              rw [show k = a + 1 by omega]
              exact epa
            · show bx _ _ _ _ (k - 1) = _
              rw [← hl]
              exact hbx
            · rw [← hl]
              exact ⟨hvn, fun _ => by show zup N (a : Int) (N a + 1) (a - 1) ≤ zup N (a : Int) (N a + 1) a ∧ zup N (a : Int) (N a + 1) a ≤ 3000000; rw [en, en1]; omega⟩
            · intro i h1 h2
              exact hGn i h1 (by omega)
            · rw [← hl]
            · rw [← hl]
              show cC t s k (zup N (a : Int) (N a + 1)) (bx LU2 LL2 HU2 HL2) a ≤ K0
              omega
          · -- the next arrival is begun
            have hI2 : tI t s lo hi (pre (zup N (a : Int) (N a + 1)) (a + 1)) (bx LU2 LL2 HU2 HL2 (a + 1 - 1)) := by
              rw [Nat.add_sub_cancel, hbx, epa]
              exact (tI_step C hI (by rw [pre_len]; exact g2) (by rw [pre_tN N (by omega)]; omega) (by rw [pre_len]; omega)).2.2 he
            have eo := e_open (nN := zup N (a : Int) (N a + 1)) (nG := G) (nLU := LU2) (nLL := LL2) (nHU := HU2) (nHL := HL2) (nT := nT) (a := a + 1) C (by omega) (by omega) hT hI2
            rw [Nat.add_sub_cancel] at eo hI2
            rw [show ((a + 1 : Nat) : Int) = (a : Int) + 1 by omega] at eo
            have etN : tN (pre (zup N (a : Int) (N a + 1)) (a + 1)) = N a + 1 := by rw [pre_tN _ (by omega), Nat.add_sub_cancel]; exact en
            have hLb := bL_bd (a := a + 1) C hI2 (by omega) (by omega)
            have htM : N a + 1 ≤ tM t s (pre (zup N (a : Int) (N a + 1)) (a + 1)) (bx LU2 LL2 HU2 HL2 a) ∧ tM t s (pre (zup N (a : Int) (N a + 1)) (a + 1)) (bx LU2 LL2 HU2 HL2 a) ≤ 3000000 := by
              unfold tM
              rw [etN, pre_len]
              omega
            generalize hMd : tM t s (pre (zup N (a : Int) (N a + 1)) (a + 1)) (bx LU2 LL2 HU2 HL2 a) = Mv at eo htM
            have ep2 : ∀ j : Nat, j ≤ a + 1 → pre (zup (zup N (a : Int) (N a + 1)) ((a : Int) + 1) Mv) j = pre (zup N (a : Int) (N a + 1)) j := fun j hj => pre_congr j (fun i hi => zup_n (by omega))
            have ew1 : zup (zup N (a : Int) (N a + 1)) ((a : Int) + 1) Mv (a + 1) = Mv := zup_s (by omega)
            obtain ⟨cg1, cg2⟩ := cR_congr (t := t) (s := s) (k := k) (N := zup (zup N (a : Int) (N a + 1)) ((a : Int) + 1) Mv) (N2 := zup N (a : Int) (N a + 1)) (B := bx LU2 LL2 HU2 HL2) (B2 := bx LU2 LL2 HU2 HL2) a (fun i hi => zup_n (by omega)) (fun i hi => rfl)
            have esk := tE_skip C hI2 (by rw [pre_len]; omega) (k - (a + 2))
            rw [pre_len, hMd] at esk
            refine Or.inr ⟨((a : Int) + 1, y + 1, zup (zup N (a : Int) (N a + 1)) ((a : Int) + 1) Mv, zup G ((a : Int) + 1) (bG (bx LU2 LL2 HU2 HL2 a) (t (a + 1) - t 0) s), LU2, LL2, HU2, HL2), ?_, ⟨a + 1, by show (a : Int) + 1 = ((a + 1 : Nat) : Int); omega, by omega, ⟨fun i hia => ?_, fun _ => ?_⟩, fun i h1 h2 => ?_, ?_, by show 0 ≤ y + 1; omega, ?_⟩, by show (1000000 - (y + 1)).toNat < (1000000 - y).toNat; omega⟩
            · simp (disch := omega) only [st_X2_search, gd_t, if_pos, if_neg, Int.toNat_natCast, ef, Option.bind_some, eo]
            · show tI t s lo hi (pre (zup (zup N (a : Int) (N a + 1)) ((a : Int) + 1) Mv) (i + 1)) (bx LU2 LL2 HU2 HL2 i)
              rw [ep2 (i + 1) (by omega)]
              by_cases ei : i = a
              · rw [ei]; exact hI2
              · exact hvn i (by omega)
            · show zup (zup N (a : Int) (N a + 1)) ((a : Int) + 1) Mv (a + 1 - 1) ≤ zup (zup N (a : Int) (N a + 1)) ((a : Int) + 1) Mv (a + 1) ∧ zup (zup N (a : Int) (N a + 1)) ((a : Int) + 1) Mv (a + 1) ≤ 3000000
              rw [ew1, Nat.add_sub_cancel, zup_n (by omega), en]
              omega
            · show zup G ((a : Int) + 1) (bG (bx LU2 LL2 HU2 HL2 a) (t (a + 1) - t 0) s) i = bG (bx LU2 LL2 HU2 HL2 (i - 1)) (t i - t 0) s
              by_cases ei : i = a + 1
              · rw [ei, zup_s (by omega), Nat.add_sub_cancel]
              · rw [zup_n (by omega)]; exact hGn i h1 (by omega)
            · show cR t s k (zup (zup N (a : Int) (N a + 1)) ((a : Int) + 1) Mv) (bx LU2 LL2 HU2 HL2) (a + 1) = L0
              simp only [cR]
              rw [cg1, ew1, ep2 (a + 1) (Nat.le_refl _), ← g5, s1, e1, ← epa, ← hbx, show k - (a + 1) = k - (a + 2) + 1 by omega, esk]
            · show y + 1 + (cC t s k (zup (zup N (a : Int) (N a + 1)) ((a : Int) + 1) Mv) (bx LU2 LL2 HU2 HL2) (a + 1) : Int) ≤ (K0 : Int)
              have ec : tC t s (k - (a + 2) + 1) (pre (zup N (a : Int) (N a + 1)) (a + 1)) (bx LU2 LL2 HU2 HL2 a) = ((cands (bG (bx LU2 LL2 HU2 HL2 a) (t (a + 1) - t 0) s - Mv).toNat Mv).map (tG t s (k - (a + 2)) (pre (zup N (a : Int) (N a + 1)) (a + 1)) (bx LU2 LL2 HU2 HL2 a))).sum + 1 := by
                simp only [tC, tc]
                rw [pre_len, hMd]
                rfl
              simp only [cC]
              rw [cg2, ew1, ep2 (a + 1) (Nat.le_refl _), ← ec, epa, hbx, show k - (a + 2) + 1 = k - (a + 1) by omega]
              omega
        · have e1 : tF t s (k - (a + 1)) (pre N a) (bx LU LL HU HL (a - 1)) (N a + 1) = [] := by
            unfold tF
            rw [if_pos he]
          have e2 : tG t s (k - (a + 1)) (pre N a) (bx LU LL HU HL (a - 1)) (N a + 1) = 1 := by
            unfold tG
            rw [if_pos he]
          refine Or.inr ⟨((a : Int), y + 1, zup N (a : Int) (N a + 1), G, LU2, LL2, HU2, HL2), ?_, ⟨a, rfl, g2, ⟨hvn, fun _ => ?_⟩, hGn, ?_, by show 0 ≤ y + 1; omega, ?_⟩, by show (1000000 - (y + 1)).toNat < (1000000 - y).toNat; omega⟩
          · simp (disch := omega) only [st_X2_search, gd_t, if_pos, if_neg, if_true, Int.toNat_natCast, ef, Option.bind_some]
          · show zup N (a : Int) (N a + 1) (a - 1) ≤ zup N (a : Int) (N a + 1) a ∧ zup N (a : Int) (N a + 1) a ≤ 3000000
            rw [en, en1]
            omega
          · show cR t s k (zup N (a : Int) (N a + 1)) (bx LU2 LL2 HU2 HL2) a = L0
            rw [← g5, s1, e1, List.nil_append]
          · show y + 1 + (cC t s k (zup N (a : Int) (N a + 1)) (bx LU2 LL2 HU2 HL2) a : Int) ≤ (K0 : Int)
            omega
      · -- no number is left here
        have hcn : cR t s k N (bx LU LL HU HL) a = cR t s k N (bx LU LL HU HL) (a - 1) ∧ cC t s k N (bx LU LL HU HL) a = 1 + cC t s k N (bx LU LL HU HL) (a - 1) := by
          obtain ⟨c, rfl⟩ : ∃ c, a = c + 1 := ⟨a - 1, by omega⟩
          rw [Nat.add_sub_cancel] at hGa ⊢
          simp only [cR, cC]
          rw [cands_nil (by omega)]
          refine ⟨rfl, ?_⟩
          simp only [List.map_nil, List.sum_nil, Nat.zero_add]
        refine Or.inr ⟨((a : Int) + -1, y + 1, N, G, LU, LL, HU, HL), ?_, ⟨a - 1, by show (a : Int) + -1 = ((a - 1 : Nat) : Int); omega, by omega, ⟨fun i hi => g3.1 i (by omega), fun h0 => ?_⟩, fun i h1 h2 => g4 i h1 (by omega), by rw [← hcn.1]; exact g5, by show 0 ≤ y + 1; omega, ?_⟩, by show (1000000 - (y + 1)).toNat < (1000000 - y).toNat; omega⟩
        · simp (disch := omega) only [st_X2_search, gd_t, if_pos, if_neg, Int.toNat_natCast]
        · show N (a - 1 - 1) ≤ N (a - 1) ∧ N (a - 1) ≤ 3000000
          have hp := hI.2.2.1 (a - 1 - 1) (by rw [pre_len]; omega)
          rw [pre_nth N a _ (by omega), pre_nth N a _ (by omega), show a - 1 - 1 + 1 = a - 1 by omega] at hp
          omega
        · show y + 1 + (cC t s k N (bx LU LL HU HL) (a - 1) : Int) ≤ (K0 : Int)
          omega) ((a : Int), 0, nN, nG, nLU, nLL, nHU, nHL) ⟨a, rfl, ha, hv, hG, hR, by show (0 : Int) ≤ 0; omega, by show (0 : Int) + (cC t s k nN (bx nLU nLL nHU nHL) a : Int) ≤ (K0 : Int); omega⟩
