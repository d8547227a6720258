/-! PURE: held -/
def cnt (Q : List Int) : Nat → Int
  | 0 => 0
  | n + 1 => cnt Q n + (if (n : Int) ∈ Q then 1 else 0)
theorem cnt_bd (Q : List Int) : ∀ n : Nat, 0 ≤ cnt Q n ∧ cnt Q n ≤ (n : Int) := by
  intro n
  induction n with
  | zero => exact ⟨Int.le_refl _, Int.le_refl _⟩
  | succ n ih =>
    simp only [cnt]
    split <;> omega
theorem cnt_nil : ∀ n : Nat, cnt [] n = 0 := by
  intro n
  induction n with
  | zero => rfl
  | succ n ih => simp only [cnt, ih, List.not_mem_nil, if_false]; rfl
theorem cnt_old {Q : List Int} {v : Int} (h : v ∈ Q) : ∀ n : Nat, cnt (Q ++ [v]) n = cnt Q n := by
  intro n
  induction n with
  | zero => rfl
  | succ n ih =>
    simp only [cnt, ih]
    have e : (n : Int) ∈ Q ++ [v] ↔ (n : Int) ∈ Q := by
      rw [List.mem_append, List.mem_singleton]
      exact ⟨fun q => q.elim id (fun q => by rw [q]; exact h), Or.inl⟩
    by_cases hn : (n : Int) ∈ Q
    · rw [if_pos hn, if_pos (e.mpr hn)]
    · rw [if_neg hn, if_neg (fun q => hn (e.mp q))]
theorem cnt_new {Q : List Int} {v : Int} (h : v ∉ Q) (h0 : 0 ≤ v) : ∀ n : Nat, cnt (Q ++ [v]) n = cnt Q n + (if v < (n : Int) then 1 else 0) := by
  intro n
  induction n with
  | zero => simp only [cnt]; rw [if_neg (by omega)]; rfl
  | succ n ih =>
    simp only [cnt, ih]
    by_cases hv : (n : Int) = v
    · have a1 : (n : Int) ∈ Q ++ [v] := by rw [List.mem_append, List.mem_singleton]; exact Or.inr hv
      have a2 : (n : Int) ∉ Q := by rw [hv]; exact h
      rw [if_pos a1, if_neg a2, if_neg (by omega), if_pos (by omega)]
    · have e : (n : Int) ∈ Q ++ [v] ↔ (n : Int) ∈ Q := by
        rw [List.mem_append, List.mem_singleton]
        exact ⟨fun q => q.elim id (fun q => absurd q hv), Or.inl⟩
      have e2 : (if v < ((n + 1 : Nat) : Int) then (1 : Int) else 0) = if v < (n : Int) then 1 else 0 := by
        by_cases hl : v < (n : Int)
        · rw [if_pos hl, if_pos (by omega)]
        · rw [if_neg hl, if_neg (by omega)]
      rw [e2]
      by_cases hn : (n : Int) ∈ Q
      · rw [if_pos hn, if_pos (e.mpr hn)]; omega
      · rw [if_neg hn, if_neg (fun q => hn (e.mp q))]; omega
def hSt (Q : List Int) (n l g : Int) : Prop := n = cnt Q 512 ∧ ((Q = [] ∧ n = 0) ∨ (Q ≠ [] ∧ 0 < n ∧ l ∈ Q ∧ g ∈ Q ∧ ∀ x ∈ Q, l ≤ x ∧ x ≤ g))
def ofR (n l g w : Int) : Int := if w = 0 then n else if n ≤ 0 then -9 else if w = 1 then l else g
theorem hSt_one {Q : List Int} {n l g n2 l2 g2 w : Int} (h : hSt Q n l g) (h2 : hSt Q n2 l2 g2) : ofR n l g w = ofR n2 l2 g2 w := by
  obtain ⟨a, b⟩ := h
  obtain ⟨a2, b2⟩ := h2
  have e : n = n2 := a.trans a2.symm
  subst e
  unfold ofR
  rcases b with ⟨q, hn⟩ | ⟨q, hn, x1, x2, x3⟩
  · rw [if_pos (show n ≤ 0 by omega), if_pos (show n ≤ 0 by omega)]
  · rcases b2 with ⟨q2, hn2⟩ | ⟨q2, hn2, y1, y2, y3⟩
    · omega
    · have e1 : l = l2 := by
        have u := (x3 l2 y1).1
        have v := (y3 l x1).1
        omega
      have e2 : g = g2 := by
        have u := (x3 g2 y2).2
        have v := (y3 g x2).2
        omega
      rw [e1, e2]
def hgp (p : Nat) (w : List Int × zB) : Int := nth w.1 (p + 1) - nth w.1 p
theorem tA_gp {k : Nat} {t : Nat → Int} {s lo hi : Int} (C : zCt k t s lo hi) {p : Nat} (hp : p + 1 < k) : ∀ w ∈ tA k t s lo hi, 1 ≤ hgp p w ∧ hgp p w ≤ 320 := by
  intro w hw
  obtain ⟨q, hq⟩ := List.mem_iff_getElem?.mp hw
  obtain ⟨k0, kI, kl⟩ := tA_mem C hq
  have h1 := tI_nth kI (show p < w.1.length by omega)
  have h2 := tI_nth kI (show p + 1 < w.1.length by omega)
  have h3 := kI.2.2.2.1
  have h4 := t_lt kI.2.2.1 (show p < p + 1 by omega) (by omega)
  unfold hgp
  omega
theorem tA_pw {k : Nat} {t : Nat → Int} {s lo hi : Int} (C : zCt k t s lo hi) {p : Nat} (hp : p + 1 < k) : (tA k t s lo hi).Pairwise (fun z w => hgp p z ≤ hgp p w) := by
  unfold tA
  rw [if_neg (by omega)]
  refine (tE_pw C (k - 1) [0] _ (tI_root C) (by simp only [List.length_cons, List.length_nil]; omega)).imp (fun {z w} h => ?_)
  exact h.2 p (p + 1) (by omega) hp
theorem e_ofRange {n l g w : Int} (hn : zR n) (hw : zR w) : f_X6_ofRange n l g w = some (ofR n l g w) := by
  unfold f_X6_ofRange ofR
  rw [gd_t hw]
  by_cases h0 : w = 0
  · rw [if_pos h0, if_pos h0]
  · rw [if_neg h0, if_neg h0, gd_t hn]
    by_cases h1 : n ≤ 0
    · rw [if_pos h1, if_pos h1]
    · rw [if_neg h1, if_neg h1, gd_t ⟨hw, zRone⟩]
      by_cases h2 : w = 1
      · rw [if_pos h2, if_pos h2]
      · rw [if_neg h2, if_neg h2]
def hC (Q : List Int) (n l g : Int) : Prop := n = cnt Q 512 ∧ 0 ≤ g ∧ g ≤ 320 ∧ ((Q = [] ∧ n = 0 ∧ g = 0) ∨ (Q ≠ [] ∧ 0 < n ∧ l ∈ Q ∧ g ∈ Q ∧ ∀ x ∈ Q, l ≤ x ∧ x ≤ g))
theorem hC_old {Q : List Int} {n l g v : Int} (h : hC Q n l g) (hv : 1 ≤ v) (hq : ∀ x ∈ Q, x ≤ v) (hg : v ≤ g) : hC (Q ++ [v]) n l g := by
  obtain ⟨a1, a2, a3, a4⟩ := h
  rcases a4 with ⟨-, -, q⟩ | ⟨q, hn, x1, x2, x3⟩
  · omega
  · have e : v = g := by have := hq g x2; omega
    subst e
    refine ⟨by rw [cnt_old x2]; exact a1, a2, a3, Or.inr ⟨by simp, hn, List.mem_append_left _ x1, List.mem_append_left _ x2, fun x hx => ?_⟩⟩
    rw [List.mem_append, List.mem_singleton] at hx
    rcases hx with hx | hx
    · exact x3 x hx
    · rw [hx]; exact x3 v x2
theorem hC_new {Q : List Int} {n l g v : Int} (h : hC Q n l g) (hv : 1 ≤ v) (hv2 : v ≤ 320) (hq : ∀ x ∈ Q, x ≤ v) (hg : g < v) : hC (Q ++ [v]) (n + 1) (if n + 1 = 1 then v else l) v := by
  obtain ⟨a1, a2, a3, a4⟩ := h
  have hnq : v ∉ Q := by
    intro hc
    rcases a4 with ⟨q, -⟩ | ⟨q, hn, x1, x2, x3⟩
    · rw [q] at hc; exact absurd hc List.not_mem_nil
    · have := (x3 v hc).2; omega
  refine ⟨by rw [cnt_new hnq (by omega), if_pos (by omega), a1], by omega, hv2, Or.inr ⟨by simp, ?_, ?_, by simp, fun x hx => ?_⟩⟩
  · have := cnt_bd Q 512; omega
  · rcases a4 with ⟨q, q2, -⟩ | ⟨q, hn, x1, x2, x3⟩
    · rw [if_pos (by omega)]; simp
    · rw [if_neg (by omega)]; exact List.mem_append_left _ x1
  · rw [List.mem_append, List.mem_singleton] at hx
    rcases a4 with ⟨q, q2, -⟩ | ⟨q, hn, x1, x2, x3⟩
    · rw [q] at hx
      rw [if_pos (by omega)]
      rcases hx with hx | hx
      · exact absurd hx List.not_mem_nil
      · omega
    · rw [if_neg (by omega)]
      have := x3 g x2
      rcases hx with hx | hx
      · have := x3 x hx; omega
      · omega
theorem c_held {k : Nat} {t nT : Nat → Int} {s lo hi p2 : Int} {p : Nat} (C : zCt k t s lo hi) (hp : p + 1 < k) (hp2 : zR p2) : ∀ (L : List (List Int × zB)) (Q : List Int) (j : Nat) (n l g nb ne : Int) (nN nG nLU nLL nHU nHL : Nat → Int), cIt k t s lo hi nb ne nT nN nG nLU nLL nHU nHL L → j + L.length ≤ 3000 → (∀ w ∈ L, 1 ≤ hgp p w ∧ hgp p w ≤ 320) → L.Pairwise (fun z w => hgp p z ≤ hgp p w) → (∀ x ∈ Q, ∀ w ∈ L, x ≤ hgp p w) → hC Q n l g → ∃ (n2 l2 g2 b2 e2 : Int) (N2 G2 LU LL HU HL : Nat → Int), hSt (Q ++ L.map (hgp p)) n2 l2 g2 ∧ zev (st_X6_held (p : Int) p2) (n, l, g, (j : Int), (k : Int), s, nb, ne, nT, nN, nG, nLU, nLL, nHU, nHL) = some (ofR n2 l2 g2 p2, (k : Int), s, b2, e2, nT, N2, G2, LU, LL, HU, HL) := by
  have hk7 : k ≤ 7 := C.1
  intro L
  induction L with
  | nil =>
    intro Q j n l g nb ne nN nG nLU nLL nHU nHL hI hj _ _ _ hc
    obtain ⟨⟨r0, b1, e1, N1, G1, LU1, LL1, HU1, HL1⟩, en, hn⟩ := e_next C (Or.inl (by omega)) hI
    have hb := cnt_bd Q 512
    obtain ⟨c1, c2, c3, c4⟩ := hc
    rcases hn with ⟨hr, -, -⟩ | ⟨hr, z, rest, hL, -⟩
    · have hr : r0 = 0 := hr
      subst hr
      have eo := e_ofRange (n := n) (l := l) (g := g) (w := p2) ⟨by omega, by omega⟩ hp2
      refine ⟨n, l, g, b1, e1, N1, G1, LU1, LL1, HU1, HL1, ⟨by rw [List.map_nil, List.append_nil]; exact c1, ?_⟩, zev_inr (by simp (disch := omega) only [st_X6_held, gd_t, if_pos, if_true, en, eo, Option.bind_some])⟩
      rw [List.map_nil, List.append_nil]
      exact c4.imp (fun q => ⟨q.1, q.2.1⟩) id
    · cases hL
  | cons w L ih =>
    intro Q j n l g nb ne nN nG nLU nLL nHU nHL hI hj hw hpw hq hc
    rw [List.length_cons] at hj
    have hb := cnt_bd Q 512
    have hc1 := hc.1
    have hc2 := hc.2.1
    have hc3 := hc.2.2.1
    obtain ⟨⟨r0, b1, e1, N1, G1, LU1, LL1, HU1, HL1⟩, en, hn⟩ := e_next C (Or.inl (by omega)) hI
    rcases hn with ⟨hr, hL, -⟩ | ⟨hr, z, rest, hL, p1, p2', hI2⟩
    · cases hL
    · have hr : r0 = 1 := hr
      subst hr
      have hz : w = z := (List.cons.inj hL).1
      have hrest : L = rest := (List.cons.inj hL).2
      subst hz
      subst hrest
      have p1 : pre N1 k = w.1 := p1
      obtain ⟨pw1, pw2⟩ := List.pairwise_cons.mp hpw
      have hwv := hw w List.mem_cons_self
      have hqv : ∀ x ∈ Q, x ≤ hgp p w := fun x hx => hq x hx w List.mem_cons_self
      have ev : N1 (Int.toNat ((p : Int) + 1)) - N1 p = hgp p w := by
        unfold hgp
        rw [← p1, pre_nth N1 k _ hp, pre_nth N1 k _ (by omega), show Int.toNat ((p : Int) + 1) = p + 1 by omega]
      have hmem : ∀ x ∈ Q ++ [hgp p w], ∀ v ∈ L, x ≤ hgp p v := fun x hx v hv => by
        rw [List.mem_append, List.mem_singleton] at hx
        rcases hx with hx | hx
        · exact hq x hx v (List.mem_cons_of_mem _ hv)
        · rw [hx]; exact pw1 v hv
      have eQ : Q ++ List.map (hgp p) (w :: L) = (Q ++ [hgp p w]) ++ List.map (hgp p) L := by
        rw [List.map_cons, List.append_assoc]
        rfl
      rw [eQ]
      by_cases hg : hgp p w ≤ g
      · have i := ih (Q ++ [hgp p w]) (j + 1) n l g b1 e1 N1 G1 LU1 LL1 HU1 HL1 hI2 (by omega) (fun v hv => hw v (List.mem_cons_of_mem _ hv)) pw2 hmem (hC_old hc hwv.1 hqv hg)
        rw [show ((j + 1 : Nat) : Int) = (j : Int) + 1 by omega] at i
        have s1 : zev (st_X6_held (p : Int) p2) (n, l, g, (j : Int), (k : Int), s, nb, ne, nT, nN, nG, nLU, nLL, nHU, nHL) = zev (st_X6_held (p : Int) p2) (n, l, g, (j : Int) + 1, (k : Int), s, b1, e1, nT, N1, G1, LU1, LL1, HU1, HL1) := zev_inl (by simp (disch := omega) only [st_X6_held, gd_t, if_pos, if_neg, en, Option.bind_some, Int.toNat_natCast, ev, zlt_t])
        rw [s1]
        exact i
      · have i := ih (Q ++ [hgp p w]) (j + 1) (n + 1) (if n + 1 = 1 then hgp p w else l) (hgp p w) b1 e1 N1 G1 LU1 LL1 HU1 HL1 hI2 (by omega) (fun v hv => hw v (List.mem_cons_of_mem _ hv)) pw2 hmem (hC_new hc hwv.1 hwv.2 hqv (by omega))
        rw [show ((j + 1 : Nat) : Int) = (j : Int) + 1 by omega] at i
        have s1 : zev (st_X6_held (p : Int) p2) (n, l, g, (j : Int), (k : Int), s, nb, ne, nT, nN, nG, nLU, nLL, nHU, nHL) = zev (st_X6_held (p : Int) p2) (n + 1, (if n + 1 = 1 then hgp p w else l), hgp p w, (j : Int) + 1, (k : Int), s, b1, e1, nT, N1, G1, LU1, LL1, HU1, HL1) := by
          by_cases h1 : n + 1 = 1
          · rw [if_pos h1]
            exact zev_inl (by simp (disch := omega) only [st_X6_held, gd_t, if_pos, if_neg, en, Option.bind_some, Int.toNat_natCast, ev, zlt_t])
          · rw [if_neg h1]
            exact zev_inl (by simp (disch := omega) only [st_X6_held, gd_t, if_pos, if_neg, en, Option.bind_some, Int.toNat_natCast, ev, zlt_t])
        rw [s1]
        exact i
