/-! PURE: the class narrows -/
theorem e_lturns {b : zB} {ap s : Int} (hb : bok b) (h0 : 0 < ap) (h1 : ap ≤ 2999) (h2 : 0 ≤ s) (h3 : s ≤ 198) : f_X4_leastTurns ap s b.2.2.1 b.2.2.2 = some (bL b ap s) ∧ bL b ap s ≤ 2000000 := by
  obtain ⟨b1, b2, b3, b4, b5, b6, b7, b8⟩ := hb
  unfold f_X4_leastTurns bL
  by_cases hc : ap ≤ s
  · rw [gd_t ⟨⟨by omega, by omega⟩, by omega, by omega⟩, if_pos hc, if_pos hc]
    exact ⟨rfl, by omega⟩
  · have p2 := zm_bd (x := ap - s) (y := b.2.2.2) (by omega) (by omega) (by omega) b8
    have p2' : 0 ≤ (ap - s) * b.2.2.2 := Int.mul_nonneg (by omega) (by omega)
    have hx : 0 ≤ (ap - s) * b.2.2.2 + b.2.2.1 - 1 := by omega
    have q1 := Int.ediv_le_self b.2.2.1 hx
    rw [gd_t ⟨⟨by omega, by omega⟩, by omega, by omega⟩, if_neg hc, if_neg hc, gd_t ⟨by omega, by omega⟩, if_neg (by omega), gd_t ⟨⟨by omega, by omega⟩, ⟨by omega, by omega⟩, by omega⟩, Int.tdiv_eq_ediv_of_nonneg hx]
    exact ⟨rfl, by omega⟩
theorem e_gturns {b : zB} {ap s : Int} (hb : bok b) (h0 : 0 < ap) (h1 : ap ≤ 2999) (h2 : 0 ≤ s) (h3 : s ≤ 198) : f_X4_greatestTurns ap s b.1 b.2.1 = some (bG b ap s) ∧ bG b ap s ≤ 2000000 := by
  obtain ⟨b1, b2, b3, b4, b5, b6, b7, b8⟩ := hb
  have p1 := zm_bd (x := ap + s) (y := b.2.1) (by omega) (by omega) (by omega) b4
  have p1' : 0 ≤ (ap + s) * b.2.1 := Int.mul_nonneg (by omega) (by omega)
  have q1 := Int.ediv_le_self b.1 p1'
  unfold f_X4_greatestTurns bG
  rw [gd_t ⟨by omega, by omega⟩, if_neg (by omega), gd_t ⟨⟨by omega, by omega⟩, ⟨by omega, by omega⟩, by omega⟩, Int.tdiv_eq_ediv_of_nonneg p1']
  exact ⟨rfl, by omega⟩
theorem p_bd {k : Nat} {t : Nat → Int} {s lo hi : Int} (C : zCt k t s lo hi) {b : zB} (hb : bok b) {i j : Nat} (hij : i < j) (hj : j < k) : 0 < pL t s b i j ∧ pL t s b i j ≤ 2000000 ∧ 0 ≤ pG t s b i j ∧ pG t s b i j ≤ 2000000 := by
  obtain ⟨u1, u2, u3, u4⟩ := c_ap C hij hj
  have hk7 : k ≤ 7 := C.1
  have h1 := (e_lturns hb u1 u2 u3 u4).2
  have h2 := (e_gturns hb u1 u2 u3 u4).2
  have h3 := bG_nn (ap := t j - t i) (s := s) hb (by omega)
  unfold pL pG
  omega
theorem e_lcount {k : Nat} {t : Nat → Int} {sl lo hi : Int} (C : zCt k t (2 * sl) lo hi) {b : zB} (hb : bok b) {i j : Nat} (hij : i < j) (hj : j < k) : f_X4_leastCount (i : Int) (j : Int) b.2.2.1 b.2.2.2 sl t = some (pL t (2 * sl) b i j) := by
  obtain ⟨u1, u2, u3, u4⟩ := c_ap C hij hj
  have hk7 : k ≤ 7 := C.1
  obtain ⟨e1, e2⟩ := e_lturns hb u1 u2 u3 u4
  have e3 := bL_nn (ap := t j - t i) (s := 2 * sl) hb
  unfold f_X4_leastCount
  rw [gd_t ⟨by omega, by omega⟩, gd_t ⟨by omega, by omega⟩, zlt_t, Int.toNat_natCast, Int.toNat_natCast, e1, Option.bind_some, gd_t ⟨⟨by omega, by omega⟩, by omega, by omega⟩]
  rfl
theorem e_gcount {k : Nat} {t : Nat → Int} {sl lo hi : Int} (C : zCt k t (2 * sl) lo hi) {b : zB} (hb : bok b) {i j : Nat} (hij : i < j) (hj : j < k) : f_X4_greatestCount (i : Int) (j : Int) b.1 b.2.1 sl t = some (pG t (2 * sl) b i j) := by
  obtain ⟨u1, u2, u3, u4⟩ := c_ap C hij hj
  have hk7 : k ≤ 7 := C.1
  obtain ⟨e1, e2⟩ := e_gturns hb u1 u2 u3 u4
  unfold f_X4_greatestCount
  rw [gd_t ⟨by omega, by omega⟩, gd_t ⟨by omega, by omega⟩, Int.toNat_natCast, Int.toNat_natCast, e1, Option.bind_some]
  rfl
def vis (t : Nat → Int) (s : Int) (b : zB) (j i : Nat) : Prop := ∀ i' j' : Nat, i' < j' → (j' < j ∨ (j' = j ∧ i' < i)) → pOk t s b i' j'
def flg (k : Nat) (t : Nat → Int) (s : Int) (b : zB) (x2 : Nat) (x3 : Int) (V : Prop) : Prop := x2 ≤ nCt k t s b 49 ∧ ((x3 = 0 ∧ V) ∨ (x3 = 1 ∧ x2 + 1 ≤ nCt k t s b 49))
/-- one pair -/
theorem c_two {k : Nat} {t : Nat → Int} {sl lo hi : Int} (C : zCt k t (2 * sl) lo hi) {b : zB} (hb : nRe k t (2 * sl) lo hi b) {i j : Nat} (hij : i < j) (hj : j < k) (c1 : pL t (2 * sl) b i j ≤ pG t (2 * sl) b i j) : ∃ (r : Int) (b2 : zB), f_X4_cutByTwo (i : Int) (j : Int) b.1 b.2.1 b.2.2.1 b.2.2.2 sl t = some (r, b2.1, b2.2.1, b2.2.2.1, b2.2.2.2) ∧ nRe k t (2 * sl) lo hi b2 ∧ ((r = 0 ∧ b2 = b ∧ pOk t (2 * sl) b i j) ∨ (r = 1 ∧ nCt k t (2 * sl) b 49 + 1 ≤ nCt k t (2 * sl) b2 49)) := by
  obtain ⟨u1, u2, u3, u4⟩ := c_ap C hij hj
  have hk7 : k ≤ 7 := C.1
  have e1 := e_lcount C hb.1 hij hj
  have e2 := e_gcount C hb.1 hij hj
  obtain ⟨v1, v2, v3, v4⟩ := p_bd C hb.1 hij hj
  have rL : zR (pL t (2 * sl) b i j) := ⟨by omega, by omega⟩
  have rG : zR (pG t (2 * sl) b i j) := ⟨by omega, by omega⟩
  have zj : zin (j : Int) 7 := ⟨by omega, by omega⟩
  have zi : zin (i : Int) 7 := ⟨by omega, by omega⟩
  by_cases c2 : pL t (2 * sl) b i j = pG t (2 * sl) b i j
  · obtain ⟨n1, n2, n3, n4, n5⟩ := nRe_cut C hb hij hj c2
    obtain ⟨r, ec, hr⟩ := e_cut (ap := t j - t i) (s := 2 * sl) (tr := pL t (2 * sl) b i j) hb.1 u3 (by omega) (by omega) n1 (by omega)
    have h01 : r = 0 ∨ r = 1 := hr.imp (fun q => q.1) (fun q => q.1)
    refine ⟨r, bcut b (t j - t i) (2 * sl) (pL t (2 * sl) b i j), ?_, n3, ?_⟩
    · unfold f_X4_cutByTwo
      rw [e1, Option.bind_some, e2, Option.bind_some, gd_t ⟨rL, rG⟩, if_pos c2, gd_t zj, gd_t zi, Int.toNat_natCast, Int.toNat_natCast, ec, Option.bind_some]
      exact gd_t h01
    · rcases hr with ⟨h0, hr⟩ | ⟨h0, hr⟩
      · rw [hr] at n5 ⊢
        exact Or.inl ⟨h0, rfl, c1, fun _ => n5⟩
      · refine Or.inr ⟨h0, ?_⟩
        have hm := cut_more C hb hij hj c2 (fun hh => by
          obtain ⟨g1, g2⟩ := hh
          rcases hr with hr | hr
          · exact hr g1
          · omega)
        omega
  · refine ⟨0, b, ?_, hb, Or.inl ⟨rfl, rfl, c1, fun q => absurd q c2⟩⟩
    unfold f_X4_cutByTwo
    rw [e1, Option.bind_some, e2, Option.bind_some, gd_t ⟨rL, rG⟩, if_neg c2]
theorem c_pair {k : Nat} {t : Nat → Int} {sl lo hi : Int} (C : zCt k t (2 * sl) lo hi) {b : zB} (hb : nRe k t (2 * sl) lo hi b) {i j x2 : Nat} {x3 : Int} (hij : i < j) (hj : j < k) (hf : flg k t (2 * sl) b x2 x3 (vis t (2 * sl) b j i)) : (zev (st_X4_narrow (k : Int) sl t) (2, x3, (x2 : Int), (j : Int), (i : Int), b.1, b.2.1, b.2.2.1, b.2.2.2) = some (0, b.1, b.2.1, b.2.2.1, b.2.2.2) ∧ ∀ b2, ¬ nSt k t (2 * sl) lo hi b2) ∨ ∃ (b2 : zB) (x4 : Int), nRe k t (2 * sl) lo hi b2 ∧ flg k t (2 * sl) b2 x2 x4 (vis t (2 * sl) b2 j (i + 1)) ∧ zev (st_X4_narrow (k : Int) sl t) (2, x3, (x2 : Int), (j : Int), (i : Int), b.1, b.2.1, b.2.2.1, b.2.2.2) = zev (st_X4_narrow (k : Int) sl t) (2, x4, (x2 : Int), (j : Int), (i : Int) + 1, b2.1, b2.2.1, b2.2.2.1, b2.2.2.2) := by
  have hk7 : k ≤ 7 := C.1
  have e1 := e_lcount C hb.1 hij hj
  have e2 := e_gcount C hb.1 hij hj
  obtain ⟨v1, v2, v3, v4⟩ := p_bd C hb.1 hij hj
  have rL : zR (pL t (2 * sl) b i j) := ⟨by omega, by omega⟩
  have rG : zR (pG t (2 * sl) b i j) := ⟨by omega, by omega⟩
  have ri : zR (i : Int) := ⟨by omega, by omega⟩
  have rj : zR (j : Int) := ⟨by omega, by omega⟩
  by_cases c1 : pL t (2 * sl) b i j ≤ pG t (2 * sl) b i j
  · obtain ⟨r, b2, ec, hb2, hr⟩ := c_two C hb hij hj c1
    have s1 : st_X4_narrow (k : Int) sl t (2, x3, (x2 : Int), (j : Int), (i : Int), b.1, b.2.1, b.2.2.1, b.2.2.2) = gd (zR r) (if r = 0 then some (.inl (2, x3, (x2 : Int), (j : Int), (i : Int) + 1, b2.1, b2.2.1, b2.2.2.1, b2.2.2.2)) else some (.inl (2, 1, (x2 : Int), (j : Int), (i : Int) + 1, b2.1, b2.2.1, b2.2.2.1, b2.2.2.2))) := by
      simp only [st_X4_narrow]
      (rw [gd_t ⟨ri, rj⟩, if_pos (by omega), e1, Option.bind_some, e2, Option.bind_some, gd_t ⟨rL, rG⟩, if_pos c1, ec, Option.bind_some]) <;> rfl
    obtain ⟨f1, f2⟩ := hf
    rcases hr with ⟨h0, hbb, hp⟩ | ⟨h0, hm⟩
    · rw [h0, gd_t zR0, if_pos rfl] at s1
      refine Or.inr ⟨b2, x3, hb2, ?_, zev_inl s1⟩
      rw [hbb]
      refine ⟨f1, ?_⟩
      rcases f2 with ⟨h3, f2⟩ | f2
      · refine Or.inl ⟨h3, fun i' j' hij' hv => ?_⟩
        by_cases e : j' = j ∧ i' = i
        · obtain ⟨rfl, rfl⟩ := e
          exact hp
        · exact f2 i' j' hij' (by omega)
      · exact Or.inr f2
    · rw [h0, gd_t zRone, if_neg (by omega)] at s1
      exact Or.inr ⟨b2, 1, hb2, ⟨by omega, Or.inr ⟨rfl, by omega⟩⟩, zev_inl s1⟩
  · refine Or.inl ⟨?_, nRe_dead C hb hij hj (by omega)⟩
    refine zev_inr ?_
    simp only [st_X4_narrow]
    rw [gd_t ⟨ri, rj⟩, if_pos (by omega), e1, Option.bind_some, e2, Option.bind_some, gd_t ⟨rL, rG⟩, if_neg c1]
/-- the rounds are over -/
theorem c_over {k : Nat} {t : Nat → Int} {sl : Int} {b : zB} (hb : bok b) {x2 : Nat} (hx : x2 ≤ 100) : zev (st_X4_narrow (k : Int) sl t) (0, 0, (x2 : Int), 0, 0, b.1, b.2.1, b.2.2.1, b.2.2.2) = some (if bemp b = true then 0 else 1, b.1, b.2.1, b.2.2.1, b.2.2.2) := by
  have z49 : zR 49 := by decide
  have rx : zR (x2 : Int) := ⟨by omega, by omega⟩
  have ee := e_isEmpty hb
  refine zev_inr ?_
  simp only [st_X4_narrow]
  by_cases he : bemp b = true
  · rw [if_pos he] at ee ⊢
    by_cases c : (x2 : Int) ≤ 49
    · rw [gd_t ⟨rx, z49⟩, if_pos c, gd_t zR0, if_pos trivial, ee, Option.bind_some, gd_t zRone, if_neg (by omega)]
    · rw [gd_t ⟨rx, z49⟩, if_neg c, ee, Option.bind_some, gd_t zRone, if_neg (by omega)]
  · rw [if_neg he] at ee ⊢
    by_cases c : (x2 : Int) ≤ 49
    · rw [gd_t ⟨rx, z49⟩, if_pos c, gd_t zR0, if_pos trivial, ee, Option.bind_some, gd_t zR0, if_pos rfl]
    · rw [gd_t ⟨rx, z49⟩, if_neg c, ee, Option.bind_some, gd_t zR0, if_pos rfl]
def nOut (k : Nat) (t : Nat → Int) (s lo hi : Int) (r : Int × Int × Int × Int × Int) : Prop := (r.1 = 1 ∧ nSt k t s lo hi r.2 ∧ nRe k t s lo hi r.2) ∨ (r.1 = 0 ∧ ∀ b2, ¬ nSt k t s lo hi b2)
def nInv (k : Nat) (t : Nat → Int) (s lo hi : Int) (n : Nat) (v : Nat × Int × Int × Int × Int × Int × Int × Int × Int) : Prop := ∃ (b : zB) (x2 : Nat), nRe k t s lo hi b ∧ ((v = (0, 1, (x2 : Int), 0, 0, b.1, b.2.1, b.2.2.1, b.2.2.2) ∧ x2 ≤ nCt k t s b 49 ∧ n = (60 - x2) * 1000 + 990) ∨ (∃ (x3 : Int) (j : Nat), v = (1, x3, (x2 : Int), (j : Int), 0, b.1, b.2.1, b.2.2.1, b.2.2.2) ∧ 0 < j ∧ j ≤ 8 ∧ flg k t s b x2 x3 (vis t s b j 0) ∧ n = (60 - x2) * 1000 + 100 * (8 - j) + 99) ∨ (∃ (x3 : Int) (j i : Nat), v = (2, x3, (x2 : Int), (j : Int), (i : Int), b.1, b.2.1, b.2.2.1, b.2.2.2) ∧ i ≤ j ∧ j < k ∧ flg k t s b x2 x3 (vis t s b j i) ∧ n = (60 - x2) * 1000 + 100 * (8 - j) + 98 - i))
theorem e_cnarrow {k : Nat} {t : Nat → Int} {sl lo hi : Int} (C : zCt k t (2 * sl) lo hi) : ∀ n v, nInv k t (2 * sl) lo hi n v → ∃ r, zev (st_X4_narrow (k : Int) sl t) v = some r ∧ nOut k t (2 * sl) lo hi r := by
  have hk7 : k ≤ 7 := C.1
  have z49 : zR 49 := by decide
  have rk : zR (k : Int) := ⟨by omega, by omega⟩
  refine zwhe (nInv k t (2 * sl) lo hi) (nOut k t (2 * sl) lo hi) ?_
  rintro n v ⟨b, x2, hb, ⟨rfl, h1, rfl⟩ | ⟨x3, j, rfl, h1, h2, hf, rfl⟩ | ⟨x3, j, i, rfl, h1, h2, hf, rfl⟩⟩
  · have h49 := nCt_le k t (2 * sl) b 49
    refine Or.inr ⟨(60 - x2) * 1000 + 100 * (8 - 1) + 99, (1, 0, (x2 : Int), ((1 : Nat) : Int), 0, b.1, b.2.1, b.2.2.1, b.2.2.2), by omega, ?_, b, x2, hb, Or.inr (Or.inl ⟨0, 1, rfl, by omega, by omega, ⟨h1, Or.inl ⟨rfl, fun i' j' hij' hv => by omega⟩⟩, rfl⟩)⟩
    refine zev_inl ?_
    simp only [st_X4_narrow]
    rw [gd_t ⟨⟨by omega, by omega⟩, z49⟩, if_pos (by omega), gd_t zRone, if_neg (by omega)]
    rfl
  · have h49 := nCt_le k t (2 * sl) b 49
    obtain ⟨f1, f2⟩ := hf
    by_cases c : j < k
    · refine Or.inr ⟨(60 - x2) * 1000 + 100 * (8 - j) + 98 - 0, (2, x3, (x2 : Int), (j : Int), ((0 : Nat) : Int), b.1, b.2.1, b.2.2.1, b.2.2.2), by omega, ?_, b, x2, hb, Or.inr (Or.inr ⟨x3, j, 0, rfl, by omega, c, ⟨f1, f2⟩, rfl⟩)⟩
      refine zev_inl ?_
      simp only [st_X4_narrow]
      rw [gd_t ⟨⟨by omega, by omega⟩, rk⟩, if_pos (by omega)]
      rfl
    · rcases f2 with ⟨rfl, f2⟩ | ⟨rfl, f2⟩
      · have s1 : zev (st_X4_narrow (k : Int) sl t) (1, 0, (x2 : Int), (j : Int), 0, b.1, b.2.1, b.2.2.1, b.2.2.2) = zev (st_X4_narrow (k : Int) sl t) (0, 0, ((x2 + 1 : Nat) : Int), 0, 0, b.1, b.2.1, b.2.2.1, b.2.2.2) := by
          rw [show ((x2 + 1 : Nat) : Int) = (x2 : Int) + 1 by omega]
          refine zev_inl ?_
          simp only [st_X4_narrow]
          rw [gd_t ⟨⟨by omega, by omega⟩, rk⟩, if_neg (by omega)]
        have s2 := s1.trans (c_over hb.1 (x2 := x2 + 1) (by omega))
        by_cases he : bemp b = true
        · rw [if_pos he] at s2
          exact Or.inl ⟨_, s2, Or.inr ⟨rfl, nRe_emp hb he⟩⟩
        · rw [if_neg he] at s2
          have he2 : bemp b = false := by simpa using he
          exact Or.inl ⟨_, s2, Or.inl ⟨rfl, ⟨hb.1, he2, hb.2.1, fun i' j' hij' hj' => f2 i' j' hij' (by omega)⟩, hb⟩⟩
      · refine Or.inr ⟨(60 - (x2 + 1)) * 1000 + 990, (0, 1, ((x2 + 1 : Nat) : Int), 0, 0, b.1, b.2.1, b.2.2.1, b.2.2.2), by omega, ?_, b, x2 + 1, hb, Or.inl ⟨rfl, f2, rfl⟩⟩
        rw [show ((x2 + 1 : Nat) : Int) = (x2 : Int) + 1 by omega]
        refine zev_inl ?_
        simp only [st_X4_narrow]
        rw [gd_t ⟨⟨by omega, by omega⟩, rk⟩, if_neg (by omega)]
  · have h49 := nCt_le k t (2 * sl) b 49
    have f1 := hf.1
    by_cases c : i < j
    · rcases c_pair C hb c h2 hf with ⟨e, hd⟩ | ⟨b2, x4, hb2, hf2, e⟩
      · exact Or.inl ⟨_, e, Or.inr ⟨rfl, hd⟩⟩
      · refine Or.inr ⟨(60 - x2) * 1000 + 100 * (8 - j) + 98 - (i + 1), (2, x4, (x2 : Int), (j : Int), ((i + 1 : Nat) : Int), b2.1, b2.2.1, b2.2.2.1, b2.2.2.2), by omega, ?_, b2, x2, hb2, Or.inr (Or.inr ⟨x4, j, i + 1, rfl, by omega, h2, hf2, rfl⟩)⟩
        rw [show ((i + 1 : Nat) : Int) = (i : Int) + 1 by omega]
        exact e
    · refine Or.inr ⟨(60 - x2) * 1000 + 100 * (8 - (j + 1)) + 99, (1, x3, (x2 : Int), ((j + 1 : Nat) : Int), 0, b.1, b.2.1, b.2.2.1, b.2.2.2), by omega, ?_, b, x2, hb, Or.inr (Or.inl ⟨x3, j + 1, rfl, by omega, by omega, ⟨f1, hf.2.imp (fun q => ⟨q.1, fun i' j' hij' hv => q.2 i' j' hij' (by omega)⟩) id⟩, rfl⟩)⟩
      rw [show ((j + 1 : Nat) : Int) = (j : Int) + 1 by omega]
      refine zev_inl ?_
      simp only [st_X4_narrow]
      rw [gd_t ⟨⟨by omega, by omega⟩, by omega, by omega⟩, if_neg (by omega)]
theorem e_narrow {z lo hi sl : Int} {T : Nat → Int} (h : zHear z lo hi sl T) : ∃ (r : Int) (b : zB), f_X4_narrow z lo hi sl T = some (r, b.1, b.2.1, b.2.2.1, b.2.2.2) ∧ ((r = 1 ∧ nSt z.toNat T (2 * sl) lo hi b ∧ nRe z.toNat T (2 * sl) lo hi b) ∨ (r = 0 ∧ ∀ b2, ¬ nSt z.toNat T (2 * sl) lo hi b2)) := by
  have C := zCt_of h
  have hz : ((z.toNat : Nat) : Int) = z := by have := h.1; omega
  obtain ⟨hr, -⟩ := nRe_root C
  obtain ⟨⟨r, b⟩, e, ho⟩ := e_cnarrow C _ (0, 1, ((0 : Nat) : Int), 0, 0, lo, 1, hi, 1) ⟨(lo, 1, hi, 1), 0, hr, Or.inl ⟨rfl, Nat.zero_le _, rfl⟩⟩
  rw [hz] at e
  refine ⟨r, b, ?_, ho⟩
  unfold f_X4_narrow f_X4_spread
  rw [Option.bind_some]
  exact e
