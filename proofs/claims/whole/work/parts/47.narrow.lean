/-! PURE: narrowing, in whatever order -/
theorem zwhe {V R : Type} {st : V → Option (V ⊕ R)} (I : Nat → V → Prop) (P : R → Prop) (hs : ∀ n v, I n v → (∃ r, zev st v = some r ∧ P r) ∨ (∃ m v2, m < n ∧ zev st v = zev st v2 ∧ I m v2)) : ∀ n v, I n v → ∃ r, zev st v = some r ∧ P r := by
  have main : ∀ (N n : Nat) (v : V), n < N → I n v → ∃ r, zev st v = some r ∧ P r := by
    intro N
    induction N with
    | zero => intro n v h; omega
    | succ N ih =>
      intro n v h hI
      rcases hs n v hI with h1 | ⟨m, v2, hm, e, h2⟩
      · exact h1
      · obtain ⟨r, e2, hp⟩ := ih m v2 (by omega) h2
        exact ⟨r, by rw [e]; exact e2, hp⟩
  intro n v hv
  exact main (n + 1) n v (by omega) hv
theorem bL_nn {b : zB} {ap s : Int} (hb : bok b) : 0 ≤ bL b ap s := by
  obtain ⟨-, -, -, -, h5, -, h7, -⟩ := hb
  unfold bL
  by_cases h : ap ≤ s
  · rw [if_pos h]; exact Int.le_refl 0
  · rw [if_neg h]
    have p : 0 ≤ (ap - s) * b.2.2.2 := Int.mul_nonneg (by omega) (by omega)
    exact Int.ediv_nonneg (by omega) (by omega)
theorem bG_nn {b : zB} {ap s : Int} (hb : bok b) (h : 0 ≤ ap + s) : 0 ≤ bG b ap s := by
  obtain ⟨h1, -, h3, -⟩ := hb
  exact Int.ediv_nonneg (Int.mul_nonneg h (by omega)) (by omega)
theorem bL_mono {a b : zB} {ap s : Int} (ha : bok a) (hb : bok b) (h : bsub a b) : bL b ap s ≤ bL a ap s := by
  have hn := bL_nn (ap := ap) (s := s) ha
  have h1 := (bL_iff (ap := ap) (s := s) ha hn).mp (Int.le_refl _)
  refine (bL_iff hb hn).mpr ?_
  generalize bL a ap s = n at hn h1
  obtain ⟨a1, -, a2, -, a3, -, a4, -⟩ := ha
  obtain ⟨b1, -, b2, -, b3, -, b4, -⟩ := hb
  by_cases h0 : n = 0
  · subst h0
    rw [Int.zero_mul] at h1 ⊢
    have : ap - s ≤ 0 := by
      refine Decidable.byContradiction (fun hc => ?_)
      have := Int.mul_pos (show 0 < ap - s by omega) a4
      omega
    exact Int.mul_nonpos_of_nonpos_of_nonneg this (by omega)
  · have x := fr_tr (a := ap - s) (b := n) (c := a.2.2.1) (d := a.2.2.2) (e := b.2.2.1) (f := b.2.2.2) (by omega) a4 b4 (by rw [Int.mul_comm a.2.2.1 n]; exact h1) h.2
    rw [Int.mul_comm n]
    exact x
theorem bG_mono {a b : zB} {ap s : Int} (ha : bok a) (hb : bok b) (hp : 0 ≤ ap + s) (h : bsub a b) : bG a ap s ≤ bG b ap s := by
  have hn := bG_nn ha hp
  have hn2 := bG_nn hb hp
  have h1 := (bG_iff (ap := ap) (s := s) ha.1).mp (Int.le_refl (bG a ap s))
  by_cases h0 : bG a ap s = 0
  · omega
  · refine (bG_iff hb.1).mpr ?_
    generalize bG a ap s = n at hn h1 h0
    obtain ⟨a1, -, a2, -, a3, -, a4, -⟩ := ha
    obtain ⟨b1, -, b2, -, b3, -, b4, -⟩ := hb
    have x := fr_tr (a := b.1) (b := b.2.1) (c := a.1) (d := a.2.1) (e := ap + s) (f := n) b2 a2 (by omega) h.1 (by rw [Int.mul_comm a.1 n]; exact h1)
    rw [Int.mul_comm n]
    exact x
theorem bG_320 {b : zB} {ap s lo hi : Int} (hb : bok b) (h : bsub b (lo, 1, hi, 1)) (hlo : 10 ≤ lo) (hp : 0 ≤ ap + s) (hp2 : ap + s ≤ 3200) : bG b ap s ≤ 320 := by
  have hn := bG_nn hb hp
  have h1 := (bG_iff (ap := ap) (s := s) hb.1).mp (Int.le_refl (bG b ap s))
  generalize bG b ap s = n at hn h1
  obtain ⟨a1, -, a2, -⟩ := hb
  have h2 : lo * b.2.1 ≤ b.1 * 1 := h.1
  have x1 : n * (lo * b.2.1) ≤ n * b.1 := Int.mul_le_mul_of_nonneg_left (by omega) hn
  have x2 : n * (lo * b.2.1) = n * lo * b.2.1 := by ac_rfl
  have x3 : n * lo ≤ ap + s := Int.le_of_mul_le_mul_right (a := b.2.1) (by omega) a2
  have x4 : n * 10 ≤ n * lo := Int.mul_le_mul_of_nonneg_left hlo hn
  omega
theorem cut_best {a b : zB} {ap s tr : Int} (h : bsub a b) (hf : bfit a ap s tr) : bsub a (bcut b ap s tr) := by
  obtain ⟨f1, f2⟩ := hf
  obtain ⟨h1, h2⟩ := h
  by_cases c1 : (ap - s) * b.2.1 ≤ b.1 * tr
  · by_cases c2 : (ap + s) * b.2.2.2 < b.2.2.1 * tr
    · simp only [bcut, bsub, if_pos c1, if_pos c2]
      exact ⟨h1, f2⟩
    · simp only [bcut, bsub, if_pos c1, if_neg c2]
      exact ⟨h1, h2⟩
  · by_cases c2 : (ap + s) * b.2.2.2 < b.2.2.1 * tr
    · simp only [bcut, bsub, if_neg c1, if_pos c2]
      exact ⟨f1, f2⟩
    · simp only [bcut, bsub, if_neg c1, if_neg c2]
      exact ⟨f1, h2⟩
/-- the least, the greatest count of two arrivals -/
def pL (t : Nat → Int) (s : Int) (b : zB) (i j : Nat) : Int := max ((j : Int) - (i : Int)) (bL b (t j - t i) s)
def pG (t : Nat → Int) (s : Int) (b : zB) (i j : Nat) : Int := bG b (t j - t i) s
def pOk (t : Nat → Int) (s : Int) (b : zB) (i j : Nat) : Prop := pL t s b i j ≤ pG t s b i j ∧ (pL t s b i j = pG t s b i j → bfit b (t j - t i) s (pL t s b i j))
/-- a box that nothing cuts -/
def nSt (k : Nat) (t : Nat → Int) (s lo hi : Int) (b : zB) : Prop := bok b ∧ bemp b = false ∧ bsub b (lo, 1, hi, 1) ∧ ∀ i j : Nat, i < j → j < k → pOk t s b i j
def nRe (k : Nat) (t : Nat → Int) (s lo hi : Int) (b : zB) : Prop := bok b ∧ bsub b (lo, 1, hi, 1) ∧ ∀ b2, nSt k t s lo hi b2 → bsub b2 b
def nDone (t : Nat → Int) (s : Int) (b : zB) (i j : Nat) : Prop := ∃ c : Int, 0 < c ∧ bfit b (t j - t i) s c ∧ c ≤ pL t s b i j ∧ pG t s b i j ≤ c
theorem c_ap {k : Nat} {t : Nat → Int} {s lo hi : Int} (C : zCt k t s lo hi) {i j : Nat} (hij : i < j) (hj : j < k) : 0 < t j - t i ∧ t j - t i ≤ 2999 ∧ 0 ≤ s ∧ s ≤ 198 := by
  obtain ⟨c1, c2, c3, c4, c5, c6, c7, c8, c9⟩ := C
  have u1 := c8 i (by omega)
  have u2 := c8 j hj
  have u3 := c9 i j hij hj
  omega
theorem nRe_ends {k : Nat} {t : Nat → Int} {s lo hi : Int} (C : zCt k t s lo hi) {b b2 : zB} (hb : nRe k t s lo hi b) (h2 : nSt k t s lo hi b2) {i j : Nat} (hij : i < j) (hj : j < k) : pL t s b i j ≤ pL t s b2 i j ∧ pG t s b2 i j ≤ pG t s b i j := by
  obtain ⟨u1, u2, u3, u4⟩ := c_ap C hij hj
  have hs := hb.2.2 b2 h2
  have m1 := bL_mono (ap := t j - t i) (s := s) h2.1 hb.1 hs
  have m2 := bG_mono (ap := t j - t i) (s := s) h2.1 hb.1 (by omega) hs
  unfold pL pG
  omega
theorem nRe_dead {k : Nat} {t : Nat → Int} {s lo hi : Int} (C : zCt k t s lo hi) {b : zB} (hb : nRe k t s lo hi b) {i j : Nat} (hij : i < j) (hj : j < k) (hd : pG t s b i j < pL t s b i j) : ∀ b2, ¬ nSt k t s lo hi b2 := by
  intro b2 h2
  obtain ⟨m1, m2⟩ := nRe_ends C hb h2 hij hj
  have := (h2.2.2.2 i j hij hj).1
  omega
theorem nRe_emp {k : Nat} {t : Nat → Int} {s lo hi : Int} {b : zB} (hb : nRe k t s lo hi b) (he : bemp b = true) : ∀ b2, ¬ nSt k t s lo hi b2 := by
  intro b2 h2
  have := bemp_sub h2.1 hb.1 (hb.2.2 b2 h2) he
  rw [h2.2.1] at this
  exact Bool.false_ne_true this
theorem nRe_cut {k : Nat} {t : Nat → Int} {s lo hi : Int} (C : zCt k t s lo hi) {b : zB} (hb : nRe k t s lo hi b) {i j : Nat} (hij : i < j) (hj : j < k) (he : pL t s b i j = pG t s b i j) : 0 < pL t s b i j ∧ pL t s b i j ≤ 320 ∧ nRe k t s lo hi (bcut b (t j - t i) s (pL t s b i j)) ∧ bsub (bcut b (t j - t i) s (pL t s b i j)) b ∧ bfit (bcut b (t j - t i) s (pL t s b i j)) (t j - t i) s (pL t s b i j) := by
  obtain ⟨u1, u2, u3, u4⟩ := c_ap C hij hj
  have hlo : 10 ≤ lo := C.2.2.2.2.1
  obtain ⟨b1, b2, b3⟩ := hb
  have h320 := bG_320 (ap := t j - t i) (s := s) b1 b2 hlo (by omega) (by omega)
  have hpos : 0 < pL t s b i j := by unfold pL; omega
  have hle : pL t s b i j ≤ 320 := by rw [he]; exact h320
  obtain ⟨k1, k2, k3⟩ := bcut_ok (ap := t j - t i) (s := s) (tr := pL t s b i j) b1 u3 (by omega) (by omega) hpos (by omega) (by omega)
  have h0 : bok (lo, 1, hi, 1) := by
    obtain ⟨c1, c2, c3, c4, c5, c6, c7, -⟩ := C
    exact ⟨show 0 < lo by omega, show lo ≤ 4000 by omega, show (0 : Int) < 1 by omega, show (1 : Int) ≤ 400 by omega, show 0 < hi by omega, show hi ≤ 4000 by omega, show (0 : Int) < 1 by omega, show (1 : Int) ≤ 400 by omega⟩
  refine ⟨hpos, hle, ⟨k1, bsub_tr k1 b1 h0 k2 b2, fun a ha => ?_⟩, k2, k3⟩
  obtain ⟨m1, m2⟩ := nRe_ends C ⟨b1, b2, b3⟩ ha hij hj
  have hok := ha.2.2.2 i j hij hj
  have e1 : pL t s a i j = pL t s b i j := by have := hok.1; omega
  have hf := hok.2 (by have := hok.1; omega)
  rw [e1] at hf
  exact cut_best (b3 a ha) hf
theorem nRe_root {k : Nat} {t : Nat → Int} {s lo hi : Int} (C : zCt k t s lo hi) : nRe k t s lo hi (lo, 1, hi, 1) ∧ bemp (lo, 1, hi, 1) = false := by
  have h := tI_root C
  exact ⟨⟨h.2.2.2.2.1, bsub_rf _, fun b2 h2 => h2.2.2.1⟩, h.2.2.2.2.2.1⟩
theorem done_sub {k : Nat} {t : Nat → Int} {s lo hi : Int} (C : zCt k t s lo hi) {a b : zB} (ha : bok a) (hb : bok b) (h : bsub a b) {i j : Nat} (hij : i < j) (hj : j < k) (hd : nDone t s b i j) : nDone t s a i j := by
  obtain ⟨u1, u2, u3, u4⟩ := c_ap C hij hj
  obtain ⟨c, c1, c2, c3, c4⟩ := hd
  have m1 := bL_mono (ap := t j - t i) (s := s) ha hb h
  have m2 := bG_mono (ap := t j - t i) (s := s) ha hb (by omega) h
  refine ⟨c, c1, bfit_sub ha hb c1 h c2, ?_, ?_⟩
  · unfold pL at c3 ⊢
    omega
  · unfold pG at c4 ⊢
    omega
/-- how many pairs are done -/
noncomputable def nCt (k : Nat) (t : Nat → Int) (s : Int) (b : zB) : Nat → Nat
  | 0 => 0
  | q + 1 => nCt k t s b q + (@ite Nat (q % 7 < q / 7 ∧ q / 7 < k ∧ nDone t s b (q % 7) (q / 7)) (Classical.propDecidable _) 1 0)
theorem nCt_le (k : Nat) (t : Nat → Int) (s : Int) (b : zB) : ∀ q : Nat, nCt k t s b q ≤ q := by
  intro q
  induction q with
  | zero => exact Nat.le_refl _
  | succ q ih =>
    simp only [nCt]
    split <;> omega
theorem nCt_mono {k : Nat} {t : Nat → Int} {s : Int} {a b : zB} (h : ∀ i j : Nat, i < j → j < k → nDone t s b i j → nDone t s a i j) : ∀ q : Nat, nCt k t s b q ≤ nCt k t s a q := by
  intro q
  induction q with
  | zero => exact Nat.le_refl _
  | succ q ih =>
    simp only [nCt]
    by_cases c : q % 7 < q / 7 ∧ q / 7 < k ∧ nDone t s b (q % 7) (q / 7)
    · have c2 : q % 7 < q / 7 ∧ q / 7 < k ∧ nDone t s a (q % 7) (q / 7) := ⟨c.1, c.2.1, h _ _ c.1 c.2.1 c.2.2⟩
      rw [if_pos c, if_pos c2]
      omega
    · rw [if_neg c]
      omega
theorem nCt_more {k : Nat} {t : Nat → Int} {s : Int} {a b : zB} (h : ∀ i j : Nat, i < j → j < k → nDone t s b i j → nDone t s a i j) {i j : Nat} (hij : i < j) (hj : j < k) (hk : k ≤ 7) (h1 : ¬ nDone t s b i j) (h2 : nDone t s a i j) : ∀ q : Nat, 7 * j + i < q → nCt k t s b q + 1 ≤ nCt k t s a q := by
  intro q
  induction q with
  | zero => intro hq; omega
  | succ q ih =>
    intro hq
    simp only [nCt]
    by_cases e : q = 7 * j + i
    · have e1 : q % 7 = i := by omega
      have e2 : q / 7 = j := by omega
      have hm := nCt_mono h q
      rw [e1, e2]
      rw [if_neg (fun c => h1 c.2.2), if_pos ⟨hij, hj, h2⟩]
      omega
    · have i1 := ih (by omega)
      by_cases c : q % 7 < q / 7 ∧ q / 7 < k ∧ nDone t s b (q % 7) (q / 7)
      · have c2 : q % 7 < q / 7 ∧ q / 7 < k ∧ nDone t s a (q % 7) (q / 7) := ⟨c.1, c.2.1, h _ _ c.1 c.2.1 c.2.2⟩
        rw [if_pos c, if_pos c2]
        omega
      · rw [if_neg c]
        omega
/-- a cut that changes the box is the first by its two arrivals -/
theorem cut_more {k : Nat} {t : Nat → Int} {s lo hi : Int} (C : zCt k t s lo hi) {b : zB} (hb : nRe k t s lo hi b) {i j : Nat} (hij : i < j) (hj : j < k) (he : pL t s b i j = pG t s b i j) (hf : ¬ bfit b (t j - t i) s (pL t s b i j)) : nCt k t s b 49 + 1 ≤ nCt k t s (bcut b (t j - t i) s (pL t s b i j)) 49 := by
  obtain ⟨u1, u2, u3, u4⟩ := c_ap C hij hj
  obtain ⟨h1, h2, h3, h4, h5⟩ := nRe_cut C hb hij hj he
  have hk7 : k ≤ 7 := C.1
  refine nCt_more (fun i' j' x y z => done_sub C h3.1 hb.1 h4 x y z) hij hj hk7 ?_ ?_ 49 (by omega)
  · intro ⟨c, c1, c2, c3, c4⟩
    have : c = pL t s b i j := by omega
    rw [this] at c2
    exact hf c2
  · have m1 := bL_mono (ap := t j - t i) (s := s) h3.1 hb.1 h4
    have m2 := bG_mono (ap := t j - t i) (s := s) h3.1 hb.1 (by omega) h4
    refine ⟨pL t s b i j, h1, h5, ?_, ?_⟩
    · generalize bcut b (t j - t i) s (pL t s b i j) = a at m1 m2
      unfold pL
      omega
    · refine Int.le_trans m2 ?_
      show pG t s b i j ≤ pL t s b i j
      omega
