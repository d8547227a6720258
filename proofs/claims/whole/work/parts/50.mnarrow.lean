/-! PURE: the reference narrows, the loop -/
def visM (t : Nat → Int) (s : Int) (b : zB) (k i j : Nat) : Prop := ∀ i' j' : Nat, i' < j' → j' < k → (i' < i ∨ (i' = i ∧ j' < j)) → pOk t s b i' j'
def mFl (k : Nat) (t : Nat → Int) (s lo hi : Int) (b : zB) (c : Nat) (x1 emp : Int) (V : Prop) : Prop := (emp = 1 ∧ (x1 = 0 ∨ x1 = 1) ∧ ∀ b2, ¬ nSt k t s lo hi b2) ∨ (emp = 0 ∧ nRe k t s lo hi b ∧ bemp b = false ∧ flg k t s b c x1 V)
theorem m_pair {R : Nat → Int} {z lo hi sl : Int} {T : Nat → Int} (h : zBoth R 0 z lo hi sl T) {b : zB} (hb : nRe z.toNat T (2 * sl) lo hi b) (hne : bemp b = false) {i j c : Nat} {x1 lev : Int} {H N LU LD HU HD : Nat → Int} (hx : bx LU LD HU HD 0 = b) (hij : i < j) (hj : j < z.toNat) (hf : flg z.toNat T (2 * sl) b c x1 (visM T (2 * sl) b z.toNat i j)) : ∃ (x2 emp2 : Int) (LU2 LD2 HU2 HD2 : Nat → Int), zev (st_X7_narrow R) (2, x1, (i : Int), (j : Int), 0, lev, 0, H, N, LU, LD, HU, HD) = zev (st_X7_narrow R) (2, x2, (i : Int), (j : Int) + 1, 0, lev, emp2, H, N, LU2, LD2, HU2, HD2) ∧ mFl z.toNat T (2 * sl) lo hi (bx LU2 LD2 HU2 HD2 0) c x2 emp2 (visM T (2 * sl) (bx LU2 LD2 HU2 HD2 0) z.toNat i (j + 1)) := by
  have C := zCt_of h.1
  obtain ⟨u1, u2, u3, u4⟩ := c_ap C hij hj
  have hk7 := C.1
  obtain ⟨v1, v2, v3, v4⟩ := p_bd C hb.1 hij hj
  have ec := e_cOf h hb.1 hx hij hj
  have rj : zR (j : Int) := ⟨by omega, by omega⟩
  have e0 : R 0 = z := h.2.1
  have rz : zR z := by have := h.1.1; have := h.1.2.1; exact ⟨by omega, by omega⟩
  have hx1 : x1 = 0 ∨ x1 = 1 := hf.2.imp (fun q => q.1) (fun q => q.1)
  rcases Int.lt_trichotomy (pL T (2 * sl) b i j) (pG T (2 * sl) b i j) with c1 | c1 | c1
  · have rn : zR (max 0 (pG T (2 * sl) b i j - pL T (2 * sl) b i j + 1)) := ⟨by omega, by omega⟩
    have s1 : zev (st_X7_narrow R) (2, x1, (i : Int), (j : Int), 0, lev, 0, H, N, LU, LD, HU, HD) = zev (st_X7_narrow R) (3, x1, (i : Int), (j : Int), max 0 (pG T (2 * sl) b i j - pL T (2 * sl) b i j + 1), lev, 0, H, N, LU, LD, HU, HD) := by
      refine zev_inl ?_
      simp only [st_X7_narrow]
      rw [e0, gd_t ⟨rj, rz⟩, if_pos (by omega), gd_t zR0, if_pos trivial, ec, Option.bind_some, gd_t ⟨rn, zRone⟩, if_neg (by omega)]
    have em : mEm (max 0 (pG T (2 * sl) b i j - pL T (2 * sl) b i j + 1)) b = 0 := by
      unfold mEm
      rw [if_neg (by omega), if_neg (by rw [hne]; exact Bool.false_ne_true)]
    rw [s1, m_pc3 hb.1 hx rn hx1, em]
    refine ⟨x1, 0, LU, LD, HU, HD, rfl, Or.inr ⟨rfl, by rw [hx]; exact hb, by rw [hx]; exact hne, ?_⟩⟩
    rw [hx]
    refine ⟨hf.1, hf.2.imp (fun q => ⟨q.1, fun i' j' h1 h2 h3 => ?_⟩) id⟩
    by_cases e : i' = i ∧ j' = j
    · obtain ⟨rfl, rfl⟩ := e
      exact ⟨by omega, fun q => by omega⟩
    · exact q.2 i' j' h1 h2 (by omega)
  · obtain ⟨n1, n2, n3, n4, n5⟩ := nRe_cut C hb hij hj c1
    obtain ⟨r, LU2, LD2, HU2, HD2, en, hx2, hr⟩ := e_isNar h hb hx hij hj c1
    have en1 : max 0 (pG T (2 * sl) b i j - pL T (2 * sl) b i j + 1) = 1 := by omega
    rw [en1] at ec
    rcases hr with ⟨rfl, hr⟩ | ⟨rfl, hr⟩
    · have s1 : zev (st_X7_narrow R) (2, x1, (i : Int), (j : Int), 0, lev, 0, H, N, LU, LD, HU, HD) = zev (st_X7_narrow R) (3, x1, (i : Int), (j : Int), 1, lev, 0, H, N, LU2, LD2, HU2, HD2) := by
        refine zev_inl ?_
        simp only [st_X7_narrow]
        rw [e0, gd_t ⟨rj, rz⟩, if_pos (by omega), gd_t zR0, if_pos trivial, ec, Option.bind_some, gd_t ⟨zRone, zRone⟩, if_pos rfl, en, Option.bind_some]
        dsimp only
        rw [gd_t zR0, if_pos rfl]
      rw [hr] at hx2 n5
      have em : mEm 1 b = 0 := by
        unfold mEm
        rw [if_neg (by omega), if_neg (by rw [hne]; exact Bool.false_ne_true)]
      rw [s1, m_pc3 hb.1 hx2 zRone hx1, em]
      refine ⟨x1, 0, LU2, LD2, HU2, HD2, rfl, Or.inr ⟨rfl, by rw [hx2]; exact hb, by rw [hx2]; exact hne, ?_⟩⟩
      rw [hx2]
      refine ⟨hf.1, hf.2.imp (fun q => ⟨q.1, fun i' j' h1 h2 h3 => ?_⟩) id⟩
      by_cases e : i' = i ∧ j' = j
      · obtain ⟨rfl, rfl⟩ := e
        exact ⟨by omega, fun _ => n5⟩
      · exact q.2 i' j' h1 h2 (by omega)
    · have s1 : zev (st_X7_narrow R) (2, x1, (i : Int), (j : Int), 0, lev, 0, H, N, LU, LD, HU, HD) = zev (st_X7_narrow R) (4, x1, (i : Int), (j : Int), 1, lev, 0, H, N, LU2, LD2, HU2, HD2) := by
        refine zev_inl ?_
        simp only [st_X7_narrow]
        rw [e0, gd_t ⟨rj, rz⟩, if_pos (by omega), gd_t zR0, if_pos trivial, ec, Option.bind_some, gd_t ⟨zRone, zRone⟩, if_pos rfl, en, Option.bind_some]
        dsimp only
        rw [gd_t zRone, if_neg (by omega)]
      have hm := cut_more C hb hij hj c1 hr
      have hf1 := hf.1
      rw [s1, m_pc4 n3.1 hx2 zRone]
      by_cases he : bemp (bcut b (T j - T i) (2 * sl) (pL T (2 * sl) b i j)) = true
      · have em : mEm 1 (bcut b (T j - T i) (2 * sl) (pL T (2 * sl) b i j)) = 1 := by
          unfold mEm
          rw [if_neg (by omega), if_pos he]
        rw [em]
        exact ⟨1, 1, LU2, LD2, HU2, HD2, rfl, Or.inl ⟨rfl, Or.inr rfl, nRe_emp n3 he⟩⟩
      · have em : mEm 1 (bcut b (T j - T i) (2 * sl) (pL T (2 * sl) b i j)) = 0 := by
          unfold mEm
          rw [if_neg (by omega), if_neg he]
        rw [em]
        refine ⟨1, 0, LU2, LD2, HU2, HD2, rfl, Or.inr ⟨rfl, by rw [hx2]; exact n3, by rw [hx2]; simpa using he, ?_⟩⟩
        rw [hx2]
        exact ⟨by omega, Or.inr ⟨rfl, by omega⟩⟩
  · have en1 : max 0 (pG T (2 * sl) b i j - pL T (2 * sl) b i j + 1) = 0 := by omega
    rw [en1] at ec
    have s1 : zev (st_X7_narrow R) (2, x1, (i : Int), (j : Int), 0, lev, 0, H, N, LU, LD, HU, HD) = zev (st_X7_narrow R) (3, x1, (i : Int), (j : Int), 0, lev, 0, H, N, LU, LD, HU, HD) := by
      refine zev_inl ?_
      simp only [st_X7_narrow]
      rw [e0, gd_t ⟨rj, rz⟩, if_pos (by omega), gd_t zR0, if_pos trivial, ec, Option.bind_some, gd_t ⟨zR0, zRone⟩, if_neg (by omega)]
    have em : mEm 0 b = 1 := by
      unfold mEm
      rw [if_pos rfl]
    rw [s1, m_pc3 hb.1 hx zR0 hx1, em]
    exact ⟨x1, 1, LU, LD, HU, HD, rfl, Or.inl ⟨rfl, hx1, nRe_dead C hb hij hj (by omega)⟩⟩
def mNo (k : Nat) (t : Nat → Int) (s lo hi : Int) (r : Int × Int × (Nat → Int) × (Nat → Int) × (Nat → Int) × (Nat → Int) × (Nat → Int) × (Nat → Int)) : Prop := (r.2.1 = 0 ∧ nSt k t s lo hi (bx r.2.2.2.2.1 r.2.2.2.2.2.1 r.2.2.2.2.2.2.1 r.2.2.2.2.2.2.2 0) ∧ nRe k t s lo hi (bx r.2.2.2.2.1 r.2.2.2.2.2.1 r.2.2.2.2.2.2.1 r.2.2.2.2.2.2.2 0)) ∨ (r.2.1 = 1 ∧ ∀ b2, ¬ nSt k t s lo hi b2)
def mInv (k : Nat) (t : Nat → Int) (s lo hi : Int) (n : Nat) (v : Nat × Int × Int × Int × Int × Int × Int × (Nat → Int) × (Nat → Int) × (Nat → Int) × (Nat → Int) × (Nat → Int) × (Nat → Int)) : Prop := ∃ (x1 lev emp : Int) (H N LU LD HU HD : Nat → Int), (v = (0, x1, 0, 0, 0, lev, emp, H, N, LU, LD, HU, HD) ∧ ((emp = 1 ∧ (x1 = 0 ∨ x1 = 1) ∧ ∀ b2, ¬ nSt k t s lo hi b2) ∨ (emp = 0 ∧ x1 = 0 ∧ nSt k t s lo hi (bx LU LD HU HD 0) ∧ nRe k t s lo hi (bx LU LD HU HD 0)) ∨ (emp = 0 ∧ x1 = 1 ∧ nRe k t s lo hi (bx LU LD HU HD 0) ∧ bemp (bx LU LD HU HD 0) = false ∧ n = (60 - nCt k t s (bx LU LD HU HD 0) 49) * 1000 + 990))) ∨ (∃ c i : Nat, v = (1, x1, (i : Int), 0, 0, lev, emp, H, N, LU, LD, HU, HD) ∧ c ≤ 49 ∧ i ≤ k ∧ mFl k t s lo hi (bx LU LD HU HD 0) c x1 emp (visM t s (bx LU LD HU HD 0) k i 0) ∧ n = (60 - c) * 1000 + 100 * (8 - i) + 99) ∨ (∃ c i j : Nat, v = (2, x1, (i : Int), (j : Int), 0, lev, emp, H, N, LU, LD, HU, HD) ∧ c ≤ 49 ∧ i < j ∧ j ≤ k ∧ mFl k t s lo hi (bx LU LD HU HD 0) c x1 emp (visM t s (bx LU LD HU HD 0) k i j) ∧ n = (60 - c) * 1000 + 100 * (8 - i) + 98 - j)
theorem e_mnar {R : Nat → Int} {z lo hi sl : Int} {T : Nat → Int} (h : zBoth R 0 z lo hi sl T) : ∀ n v, mInv z.toNat T (2 * sl) lo hi n v → ∃ r, zev (st_X7_narrow R) v = some r ∧ mNo z.toNat T (2 * sl) lo hi r := by
  have C := zCt_of h.1
  have hk7 := C.1
  have e0 : R 0 = z := h.2.1
  have hz0 := h.1.1
  have hz7 := h.1.2.1
  have rz : zR z := ⟨by omega, by omega⟩
  refine zwhe (mInv z.toNat T (2 * sl) lo hi) (mNo z.toNat T (2 * sl) lo hi) ?_
  rintro n v ⟨x1, lev, emp, H, N, LU, LD, HU, HD, ⟨rfl, hh⟩ | ⟨c, i, rfl, hc, hik, hf, rfl⟩ | ⟨c, i, j, rfl, hc, hij, hjk, hf, rfl⟩⟩
  · rcases hh with ⟨rfl, hx1, hd⟩ | ⟨rfl, rfl, h1, h2⟩ | ⟨rfl, rfl, h1, h2, rfl⟩
    · refine Or.inl ⟨(lev, 1, H, N, LU, LD, HU, HD), zev_inr ?_, Or.inr ⟨rfl, hd⟩⟩
      simp only [st_X7_narrow]
      rcases hx1 with rfl | rfl
      · rw [gd_t zR0, if_pos rfl]
      · rw [gd_t zRone, if_neg (by omega), gd_t zRone, if_neg (by omega)]
    · refine Or.inl ⟨(lev, 0, H, N, LU, LD, HU, HD), zev_inr ?_, Or.inl ⟨rfl, h1, h2⟩⟩
      simp only [st_X7_narrow]
      rw [gd_t zR0, if_pos trivial]
    · have h49 := nCt_le z.toNat T (2 * sl) (bx LU LD HU HD 0) 49
      refine Or.inr ⟨(60 - nCt z.toNat T (2 * sl) (bx LU LD HU HD 0) 49) * 1000 + 100 * (8 - 0) + 99, (1, 0, ((0 : Nat) : Int), 0, 0, lev, 0, H, N, LU, LD, HU, HD), by omega, ?_, 0, lev, 0, H, N, LU, LD, HU, HD, Or.inr (Or.inl ⟨nCt z.toNat T (2 * sl) (bx LU LD HU HD 0) 49, 0, rfl, h49, by omega, Or.inr ⟨rfl, h1, h2, Nat.le_refl _, Or.inl ⟨rfl, fun i' j' q1 q2 q3 => by omega⟩⟩, rfl⟩)⟩
      refine zev_inl ?_
      simp only [st_X7_narrow]
      rw [gd_t zRone, if_neg (by omega), gd_t zR0, if_pos trivial]
      rfl
  · have ri : zR (i : Int) := ⟨by omega, by omega⟩
    rcases hf with ⟨rfl, hx1, hd⟩ | ⟨rfl, h1, h2, hf⟩
    · refine Or.inr ⟨0, (0, x1, 0, 0, 0, lev, 1, H, N, LU, LD, HU, HD), by omega, ?_, x1, lev, 1, H, N, LU, LD, HU, HD, Or.inl ⟨rfl, Or.inl ⟨rfl, hx1, hd⟩⟩⟩
      refine zev_inl ?_
      simp only [st_X7_narrow]
      rw [e0, gd_t ⟨ri, rz⟩]
      by_cases q : (i : Int) < z
      · rw [if_pos q, gd_t zRone, if_neg (by omega)]
      · rw [if_neg q]
    · by_cases q : (i : Int) < z
      · refine Or.inr ⟨(60 - c) * 1000 + 100 * (8 - i) + 98 - (i + 1), (2, x1, (i : Int), ((i + 1 : Nat) : Int), 0, lev, 0, H, N, LU, LD, HU, HD), by omega, ?_, x1, lev, 0, H, N, LU, LD, HU, HD, Or.inr (Or.inr ⟨c, i, i + 1, rfl, hc, by omega, by omega, Or.inr ⟨rfl, h1, h2, hf.1, hf.2.imp (fun y => ⟨y.1, fun i' j' q1 q2 q3 => y.2 i' j' q1 q2 (by omega)⟩) id⟩, rfl⟩)⟩
        rw [show ((i + 1 : Nat) : Int) = (i : Int) + 1 by omega]
        refine zev_inl ?_
        simp only [st_X7_narrow]
        rw [e0, gd_t ⟨ri, rz⟩, if_pos q, gd_t zR0, if_pos trivial, zlt_t]
      · have s1 : zev (st_X7_narrow R) (1, x1, (i : Int), 0, 0, lev, 0, H, N, LU, LD, HU, HD) = zev (st_X7_narrow R) (0, x1, 0, 0, 0, lev, 0, H, N, LU, LD, HU, HD) := by
          refine zev_inl ?_
          simp only [st_X7_narrow]
          rw [e0, gd_t ⟨ri, rz⟩, if_neg q]
        obtain ⟨f1, f2⟩ := hf
        have h49 := nCt_le z.toNat T (2 * sl) (bx LU LD HU HD 0) 49
        rcases f2 with ⟨rfl, f2⟩ | ⟨rfl, f2⟩
        · exact Or.inr ⟨0, _, by omega, s1, 0, lev, 0, H, N, LU, LD, HU, HD, Or.inl ⟨rfl, Or.inr (Or.inl ⟨rfl, rfl, ⟨h1.1, h2, h1.2.1, fun i' j' q1 q2 => f2 i' j' q1 q2 (by omega)⟩, h1⟩)⟩⟩
        · exact Or.inr ⟨(60 - nCt z.toNat T (2 * sl) (bx LU LD HU HD 0) 49) * 1000 + 990, _, by omega, s1, 1, lev, 0, H, N, LU, LD, HU, HD, Or.inl ⟨rfl, Or.inr (Or.inr ⟨rfl, rfl, h1, h2, rfl⟩)⟩⟩
  · have rj : zR (j : Int) := ⟨by omega, by omega⟩
    by_cases q : (j : Int) < z
    · rcases hf with ⟨rfl, hx1, hd⟩ | ⟨rfl, h1, h2, hf⟩
      · refine Or.inr ⟨(60 - c) * 1000 + 100 * (8 - (i + 1)) + 99, (1, x1, ((i + 1 : Nat) : Int), 0, 0, lev, 1, H, N, LU, LD, HU, HD), by omega, ?_, x1, lev, 1, H, N, LU, LD, HU, HD, Or.inr (Or.inl ⟨c, i + 1, rfl, hc, by omega, Or.inl ⟨rfl, hx1, hd⟩, rfl⟩)⟩
        rw [show ((i + 1 : Nat) : Int) = (i : Int) + 1 by omega]
        refine zev_inl ?_
        simp only [st_X7_narrow]
        rw [e0, gd_t ⟨rj, rz⟩, if_pos q, gd_t zRone, if_neg (by omega)]
      · obtain ⟨x2, emp2, LU2, LD2, HU2, HD2, e, hf2⟩ := m_pair (lev := lev) (H := H) (N := N) h h1 h2 rfl hij (by omega) hf
        refine Or.inr ⟨(60 - c) * 1000 + 100 * (8 - i) + 98 - (j + 1), (2, x2, (i : Int), ((j + 1 : Nat) : Int), 0, lev, emp2, H, N, LU2, LD2, HU2, HD2), by omega, ?_, x2, lev, emp2, H, N, LU2, LD2, HU2, HD2, Or.inr (Or.inr ⟨c, i, j + 1, rfl, hc, by omega, by omega, hf2, rfl⟩)⟩
        rw [show ((j + 1 : Nat) : Int) = (j : Int) + 1 by omega]
        exact e
    · refine Or.inr ⟨(60 - c) * 1000 + 100 * (8 - (i + 1)) + 99, (1, x1, ((i + 1 : Nat) : Int), 0, 0, lev, emp, H, N, LU, LD, HU, HD), by omega, ?_, x1, lev, emp, H, N, LU, LD, HU, HD, Or.inr (Or.inl ⟨c, i + 1, rfl, hc, by omega, ?_, rfl⟩)⟩
      · rw [show ((i + 1 : Nat) : Int) = (i : Int) + 1 by omega]
        refine zev_inl ?_
        simp only [st_X7_narrow]
        rw [e0, gd_t ⟨rj, rz⟩, if_neg q]
      · exact hf.imp id (fun y => ⟨y.1, y.2.1, y.2.2.1, y.2.2.2.1, y.2.2.2.2.imp (fun y => ⟨y.1, fun i' j' q1 q2 q3 => y.2 i' j' q1 q2 (by omega)⟩) id⟩)
theorem e_mnarrow (H N LU LD HU HD : Nat → Int) {R : Nat → Int} {z lo hi sl : Int} {T : Nat → Int} (h : zBoth R 0 z lo hi sl T) : ∃ (l2 emp : Int) (H2 N2 LU2 LD2 HU2 HD2 : Nat → Int), f_X7_narrow R H N LU LD HU HD = some (l2, emp, H2, N2, LU2, LD2, HU2, HD2) ∧ ((emp = 0 ∧ nSt z.toNat T (2 * sl) lo hi (bx LU2 LD2 HU2 HD2 0) ∧ nRe z.toNat T (2 * sl) lo hi (bx LU2 LD2 HU2 HD2 0)) ∨ (emp = 1 ∧ ∀ b2, ¬ nSt z.toNat T (2 * sl) lo hi b2)) := by
  have C := zCt_of h.1
  obtain ⟨hr, he⟩ := nRe_root C
  obtain ⟨H1, e, -⟩ := e_mbegin H N LU LD HU HD h
  obtain ⟨⟨l2, emp, H2, N2, LU2, LD2, HU2, HD2⟩, e2, ho⟩ := e_mnar h _ (0, 1, 0, 0, 0, 0, 0, H1, zup N 0 0, zup LU 0 lo, zup LD 0 1, zup HU 0 hi, zup HD 0 1) ⟨1, 0, 0, H1, zup N 0 0, zup LU 0 lo, zup LD 0 1, zup HU 0 hi, zup HD 0 1, Or.inl ⟨rfl, Or.inr (Or.inr ⟨rfl, rfl, hr, he, rfl⟩)⟩⟩
  refine ⟨l2, emp, H2, N2, LU2, LD2, HU2, HD2, ?_, ho⟩
  unfold f_X7_narrow
  rw [e, Option.bind_some]
  exact e2
