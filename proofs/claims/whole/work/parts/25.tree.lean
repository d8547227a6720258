/-! PURE: the tree of numberings -/
def cands : Nat → Int → List Int
  | 0, _ => []
  | c + 1, m => (m + 1) :: cands c (m + 1)
theorem cands_mem : ∀ (c : Nat) (m x : Int), x ∈ cands c m ↔ m < x ∧ x ≤ m + c := by
  intro c
  induction c with
  | zero => intro m x; simp only [cands, List.not_mem_nil, false_iff]; omega
  | succ c ih => intro m x; simp only [cands, List.mem_cons, ih]; omega
theorem cands_pw : ∀ (c : Nat) (m : Int), (cands c m).Pairwise (fun x y => x < y) := by
  intro c
  induction c with
  | zero => intro m; exact List.Pairwise.nil
  | succ c ih => intro m; exact List.Pairwise.cons (fun y hy => by have := (cands_mem c (m + 1) y).mp hy; omega) (ih (m + 1))
def nth (l : List Int) (i : Nat) : Int := (l[i]?).getD 0
theorem nth_l {l : List Int} {n : Int} {i : Nat} (h : i < l.length) : nth (l ++ [n]) i = nth l i := by
  unfold nth
  rw [List.getElem?_append_left h]
theorem nth_e {l : List Int} {n : Int} : nth (l ++ [n]) l.length = n := by
  unfold nth
  rw [List.getElem?_append_right (Nat.le_refl _), Nat.sub_self]
  rfl
theorem nth_r {l r : List Int} {i : Nat} (h : i < l.length) : nth (l ++ r) i = nth l i := by
  unfold nth
  rw [List.getElem?_append_left h]
theorem lsum_le : ∀ (x y : List Int), x.length = y.length → (∀ i : Nat, i < x.length → nth x i ≤ nth y i) → x.sum ≤ y.sum ∧ ((∃ a : Nat, a < x.length ∧ nth x a < nth y a) → x.sum < y.sum) := by
  intro x
  induction x with
  | nil =>
    intro y hl _
    cases y with
    | nil => exact ⟨Int.le_refl _, fun ⟨a, h, _⟩ => absurd h (Nat.not_lt_zero a)⟩
    | cons _ _ => cases hl
  | cons p x ih =>
    intro y hl h
    cases y with
    | nil => cases hl
    | cons q y =>
      have hl2 : x.length = y.length := by simpa using hl
      have h0 : p ≤ q := h 0 (Nat.zero_lt_succ _)
      have hs : ∀ i : Nat, i < x.length → nth x i ≤ nth y i := fun i hi => h (i + 1) (Nat.succ_lt_succ hi)
      obtain ⟨i1, i2⟩ := ih y hl2 hs
      rw [List.sum_cons, List.sum_cons]
      refine ⟨by omega, fun ⟨a, ha, hlt⟩ => ?_⟩
      cases a with
      | zero =>
        have hlt : p < q := hlt
        omega
      | succ a =>
        have hlt : nth x a < nth y a := hlt
        have := i2 ⟨a, by simpa using ha, hlt⟩
        omega
theorem lsum_bd : ∀ (x : List Int), (∀ i : Nat, i < x.length → 0 ≤ nth x i ∧ nth x i ≤ 320) → 0 ≤ x.sum ∧ x.sum ≤ 320 * (x.length : Int) := by
  intro x
  induction x with
  | nil => intro _; exact ⟨by decide, by decide⟩
  | cons p x ih =>
    intro h
    have h0 : 0 ≤ p ∧ p ≤ 320 := h 0 (Nat.zero_lt_succ _)
    obtain ⟨i1, i2⟩ := ih (fun i hi => h (i + 1) (Nat.succ_lt_succ hi))
    rw [List.sum_cons, List.length_cons]
    omega
theorem pw_len {α : Type} (f : α → Int) (M : Int) : ∀ (l : List α) (m : Int), l.Pairwise (fun x y => f x < f y) → (∀ x ∈ l, m ≤ f x ∧ f x ≤ M) → (l.length : Int) ≤ M - m + 1 ∨ l = [] := by
  intro l
  induction l with
  | nil => intro m _ _; exact Or.inr rfl
  | cons x l ih =>
    intro m hp hb
    obtain ⟨h1, h2⟩ := List.pairwise_cons.mp hp
    have hx := hb x List.mem_cons_self
    rcases ih (m + 1) h2 (fun y hy => ⟨by have := h1 y hy; omega, (hb y (List.mem_cons_of_mem _ hy)).2⟩) with h | h
    · left
      rw [List.length_cons]
      omega
    · subst h
      left
      simp only [List.length_cons, List.length_nil]
      omega
def bfold (t : Nat → Int) (s : Int) (ν : List Int) (a : Nat) : Nat → zB → zB
  | 0, b => b
  | j + 1, b => bcut (bfold t s ν a j b) (t a - t j) s (nth ν a - nth ν j)
def bG (b : zB) (ap s : Int) : Int := ((ap + s) * b.2.1) / b.1
def bL (b : zB) (ap s : Int) : Int := if ap ≤ s then 0 else ((ap - s) * b.2.2.2 + b.2.2.1 - 1) / b.2.2.1
theorem bG_iff {b : zB} {ap s n : Int} (h : 0 < b.1) : n ≤ bG b ap s ↔ n * b.1 ≤ (ap + s) * b.2.1 := Int.le_ediv_iff_mul_le h
theorem bL_iff {b : zB} {ap s n : Int} (h : bok b) (hn : 0 ≤ n) : bL b ap s ≤ n ↔ (ap - s) * b.2.2.2 ≤ n * b.2.2.1 := by
  obtain ⟨-, -, -, -, h5, -, h7, -⟩ := h
  unfold bL
  by_cases hc : ap ≤ s
  · rw [if_pos hc]
    have x1 : (ap - s) * b.2.2.2 ≤ 0 := Int.mul_nonpos_of_nonpos_of_nonneg (by omega) (by omega)
    have x2 : 0 ≤ n * b.2.2.1 := Int.mul_nonneg hn (by omega)
    constructor
    · intro _; omega
    · intro _; exact hn
  · rw [if_neg hc, Int.ediv_le_iff_le_mul h5]
    constructor
    · intro q; omega
    · intro q; omega
/-- arrivals, box and slack as they can be -/
def zCt (k : Nat) (t : Nat → Int) (s lo hi : Int) : Prop := k ≤ 7 ∧ 0 ≤ s ∧ s ≤ 198 ∧ 2 * s < lo ∧ 10 ≤ lo ∧ lo ≤ hi ∧ hi ≤ 999 ∧ (∀ i : Nat, i < k → 0 ≤ t i ∧ t i ≤ 2999) ∧ ∀ i j : Nat, i < j → j < k → t i < t j
def tN (ν : List Int) : Int := nth ν (ν.length - 1)
def tb (t : Nat → Int) (s : Int) (ν : List Int) (b : zB) (n : Int) : zB := bfold t s (ν ++ [n]) ν.length ν.length b
/-- numbers ν of the arrivals ahead, and the periods that they leave -/
def tI (t : Nat → Int) (s lo hi : Int) (ν : List Int) (b : zB) : Prop := 0 < ν.length ∧ nth ν 0 = 0 ∧ (∀ i : Nat, (i : Int) + 1 < (ν.length : Int) → nth ν i < nth ν (i + 1)) ∧ tN ν ≤ 320 ∧ bok b ∧ bemp b = false ∧ lo * b.2.1 ≤ b.1 ∧ b.2.2.1 ≤ hi * b.2.2.2 ∧ ∀ i j : Nat, i < j → j < ν.length → bfit b (t j - t i) s (nth ν j - nth ν i)
theorem tI_root {k : Nat} {t : Nat → Int} {s lo hi : Int} (C : zCt k t s lo hi) : tI t s lo hi [0] (lo, 1, hi, 1) := by
  obtain ⟨c1, c2, c3, c4, c5, c6, c7, c8, c9⟩ := C
  refine ⟨by decide, rfl, fun i hi => by simp only [List.length_cons, List.length_nil] at hi; omega, by decide, ⟨show 0 < lo by omega, show lo ≤ 4000 by omega, show (0 : Int) < 1 by omega, show (1 : Int) ≤ 400 by omega, show 0 < hi by omega, show hi ≤ 4000 by omega, show (0 : Int) < 1 by omega, show (1 : Int) ≤ 400 by omega⟩, ?_, show lo * 1 ≤ lo by omega, show hi ≤ hi * 1 by omega, fun i j h1 h2 => by simp only [List.length_cons, List.length_nil] at h2; omega⟩
  unfold bemp
  refine decide_eq_false ?_
  show ¬ (hi * 1 < lo * 1)
  omega
theorem tI_nth {t : Nat → Int} {s lo hi : Int} {ν : List Int} {b : zB} (h : tI t s lo hi ν b) {i : Nat} (hi : i < ν.length) : 0 ≤ nth ν i ∧ nth ν i ≤ tN ν := by
  obtain ⟨h1, h2, h3, h4, -⟩ := h
  constructor
  · by_cases e : i = 0
    · rw [e, h2]; exact Int.le_refl 0
    · have := t_lt h3 (show 0 < i by omega) (by omega)
      omega
  · unfold tN
    by_cases e : i = ν.length - 1
    · rw [e]; exact Int.le_refl _
    · have := t_lt h3 (show i < ν.length - 1 by omega) (by omega)
      omega
theorem bfold_ok {t : Nat → Int} {s : Int} {ν : List Int} {a : Nat} {b : zB} (hb : bok b) (hs : 0 ≤ s) (ha : ∀ i : Nat, i < a → 0 < t a - t i ∧ t a - t i + s ≤ 4000) (ht : ∀ i : Nat, i < a → 0 < nth ν a - nth ν i ∧ nth ν a - nth ν i ≤ 400) : ∀ j : Nat, j ≤ a → bok (bfold t s ν a j b) ∧ bsub (bfold t s ν a j b) b ∧ ∀ i : Nat, i < j → bfit (bfold t s ν a j b) (t a - t i) s (nth ν a - nth ν i) := by
  intro j
  induction j with
  | zero => intro _; exact ⟨hb, bsub_rf b, fun i hi => absurd hi (Nat.not_lt_zero i)⟩
  | succ j ih =>
    intro hj
    obtain ⟨i1, i2, i3⟩ := ih (by omega)
    have h1 := ha j (by omega)
    have h2 := ht j (by omega)
    obtain ⟨c1, c2, c3⟩ := bcut_ok (ap := t a - t j) (s := s) (tr := nth ν a - nth ν j) i1 hs (by omega) (by omega) h2.1 h2.2 (by omega)
    refine ⟨c1, bsub_tr c1 i1 hb c2 i2, fun i hi => ?_⟩
    by_cases e : i = j
    · rw [e]; exact c3
    · exact bfit_sub c1 i1 (ht i (by omega)).1 c2 (i3 i (by omega))
theorem bfold_emp {t : Nat → Int} {s : Int} {ν : List Int} {a : Nat} {b : zB} (hb : bok b) (hs : 0 ≤ s) (ha : ∀ i : Nat, i < a → 0 < t a - t i ∧ t a - t i + s ≤ 4000) (ht : ∀ i : Nat, i < a → 0 < nth ν a - nth ν i ∧ nth ν a - nth ν i ≤ 400) (j : Nat) (he : bemp (bfold t s ν a j b) = true) : ∀ d : Nat, j + d ≤ a → bemp (bfold t s ν a (j + d) b) = true := by
  intro d
  induction d with
  | zero => intro _; exact he
  | succ d ih =>
    intro hd
    have h1 := ha (j + d) (by omega)
    have h2 := ht (j + d) (by omega)
    obtain ⟨i1, i2, i3⟩ := bfold_ok hb hs ha ht (j + d) (by omega)
    obtain ⟨c1, c2, c3⟩ := bcut_ok (ap := t a - t (j + d)) (s := s) (tr := nth ν a - nth ν (j + d)) i1 hs (by omega) (by omega) h2.1 h2.2 (by omega)
    exact bemp_sub c1 i1 c2 (ih (by omega))
theorem tI_bd {k : Nat} {t : Nat → Int} {s lo hi n : Int} {ν : List Int} {b : zB} (C : zCt k t s lo hi) (h : tI t s lo hi ν b) (hl : ν.length < k) (h1 : tN ν < n) (h2 : n ≤ bG b (t ν.length - t 0) s) : n ≤ 320 ∧ (∀ i : Nat, i < ν.length → 0 < t ν.length - t i ∧ t ν.length - t i + s ≤ 4000) ∧ ∀ i : Nat, i < ν.length → 0 < nth (ν ++ [n]) ν.length - nth (ν ++ [n]) i ∧ nth (ν ++ [n]) ν.length - nth (ν ++ [n]) i ≤ 400 := by
  obtain ⟨c1, c2, c3, c4, c5, c6, c7, c8, c9⟩ := C
  have h' := h
  obtain ⟨l0, l1, l2, l3, b1, b2, b3, b4, b5⟩ := h'
  obtain ⟨q1, q2, q3, q4, -⟩ := b1
  have hn0 : 0 ≤ n := by
    have := (tI_nth h (show 0 < ν.length by omega)).1
    have := (tI_nth h (show 0 < ν.length by omega)).2
    omega
  have hA : ∀ i : Nat, i < ν.length → 0 < t ν.length - t i ∧ t ν.length - t i + s ≤ 4000 := fun i hi => by
    have u1 := c8 ν.length hl
    have u2 := c8 i (by omega)
    have u3 := c9 i ν.length hi hl
    omega
  have hn : n ≤ 320 := by
    have x0 := (bG_iff (ap := t ν.length - t 0) (s := s) (n := n) q1).mp h2
    have x1 : n * (lo * b.2.1) ≤ n * b.1 := Int.mul_le_mul_of_nonneg_left b3 hn0
    have x2 : n * (lo * b.2.1) = n * lo * b.2.1 := by ac_rfl
    have x3 : n * lo ≤ t ν.length - t 0 + s := Int.le_of_mul_le_mul_right (a := b.2.1) (by omega) q3
    have x4 : n * 10 ≤ n * lo := Int.mul_le_mul_of_nonneg_left c5 hn0
    have u1 := c8 ν.length hl
    have u2 := c8 0 (by omega)
    omega
  refine ⟨hn, hA, fun i hi => ?_⟩
  rw [nth_e, nth_l hi]
  have := tI_nth h hi
  omega
theorem tI_step {k : Nat} {t : Nat → Int} {s lo hi n : Int} {ν : List Int} {b : zB} (C : zCt k t s lo hi) (h : tI t s lo hi ν b) (hl : ν.length < k) (h1 : tN ν < n) (h2 : n ≤ bG b (t ν.length - t 0) s) : bok (tb t s ν b n) ∧ bsub (tb t s ν b n) b ∧ (bemp (tb t s ν b n) = false → tI t s lo hi (ν ++ [n]) (tb t s ν b n)) := by
  obtain ⟨hn, hA, hT⟩ := tI_bd C h hl h1 h2
  have h' := h
  obtain ⟨l0, l1, l2, l3, b1, b2, b3, b4, b5⟩ := h'
  have c2 : 0 ≤ s := C.2.1
  obtain ⟨i1, i2, i3⟩ := bfold_ok (ν := ν ++ [n]) b1 c2 hA hT ν.length (Nat.le_refl _)
  refine ⟨i1, i2, fun he => ?_⟩
  have i1' := i1
  have b1' := b1
  obtain ⟨p1, -, p2, -, p3, -, p4, -⟩ := i1'
  obtain ⟨q1, -, q2, -, q3, -, q4, -⟩ := b1'
  have eL : (ν ++ [n]).length = ν.length + 1 := by simp
  have eN : tN (ν ++ [n]) = n := by unfold tN; rw [eL, Nat.add_sub_cancel]; exact nth_e
  have hlo : lo * (tb t s ν b n).2.1 ≤ (tb t s ν b n).1 := by
    have x := fr_tr (a := lo) (b := 1) (c := b.1) (d := b.2.1) (e := (tb t s ν b n).1) (f := (tb t s ν b n).2.1) (by omega) q2 p2 (by omega) i2.1
    rw [Int.mul_one] at x
    exact x
  have hhi : (tb t s ν b n).2.2.1 ≤ hi * (tb t s ν b n).2.2.2 := by
    have x := fr_tr (a := (tb t s ν b n).2.2.1) (b := (tb t s ν b n).2.2.2) (c := b.2.2.1) (d := b.2.2.2) (e := hi) (f := 1) p4 q4 (by omega) i2.2 (by omega)
    rw [Int.mul_one] at x
    exact x
  refine ⟨by omega, by rw [nth_l l0]; exact l1, fun i hi => ?_, by rw [eN]; exact hn, i1, he, hlo, hhi, fun i j hij hj => ?_⟩
  · rw [eL] at hi
    by_cases e : i + 1 < ν.length
    · rw [nth_l (by omega), nth_l e]; exact l2 i (by omega)
    · have e2 : i + 1 = ν.length := by omega
      rw [e2, nth_e, nth_l (by omega)]
      have : nth ν i = tN ν := by unfold tN; congr 1; omega
      omega
  · rw [eL] at hj
    by_cases e : j = ν.length
    · rw [e]; exact i3 i (by omega)
    · rw [nth_l (by omega), nth_l (by omega)]
      have hp : 0 < nth ν j - nth ν i := by
        have := t_lt l2 hij (by omega)
        omega
      exact bfit_sub i1 b1 hp i2 (b5 i j hij (by omega))
/-- some period bears out the numbers, from arrival 0 on -/
def feas (t : Nat → Int) (s lo : Int) (x : List Int) : Prop := ∃ P Q : Int, 0 < P ∧ 0 < Q ∧ lo * Q ≤ P ∧ ∀ i : Nat, i < x.length → (t i - t 0 - s) * Q ≤ nth x i * P ∧ nth x i * P ≤ (t i - t 0 + s) * Q
theorem tI_pair {t : Nat → Int} {s lo hi : Int} {ν : List Int} {b : zB} (h : tI t s lo hi ν b) {i j : Nat} (hij : i < j) (hj : j < ν.length) : (t j - t i - s) * b.2.1 ≤ (nth ν j - nth ν i) * b.1 ∧ (nth ν j - nth ν i) * b.1 ≤ (t j - t i + s) * b.2.1 := by
  obtain ⟨l0, l1, l2, l3, b1, b2, b3, b4, b5⟩ := h
  obtain ⟨q1, -, q2, -, q3, -, q4, -⟩ := b1
  have hp : 0 < nth ν j - nth ν i := by
    have := t_lt l2 hij (by omega)
    omega
  obtain ⟨f1, f2⟩ := b5 i j hij hj
  have hne : b.1 * b.2.2.2 ≤ b.2.2.1 * b.2.1 := by
    unfold bemp at b2
    have := of_decide_eq_false b2
    omega
  constructor
  · rw [Int.mul_comm (nth ν j - nth ν i)]; exact f1
  · rw [Int.mul_comm (nth ν j - nth ν i)]
    exact fr_tr q2 q4 hp hne f2
theorem feas_tI {k : Nat} {t : Nat → Int} {s lo hi : Int} {ν : List Int} {b : zB} (C : zCt k t s lo hi) (h : tI t s lo hi ν b) : feas t s lo ν := by
  have h' := h
  obtain ⟨l0, l1, l2, l3, ⟨q1, -, q2, -⟩, b2, b3, -⟩ := h'
  have c2 : 0 ≤ s := C.2.1
  refine ⟨b.1, b.2.1, q1, q2, b3, fun i hi => ?_⟩
  by_cases e : i = 0
  · subst e
    rw [l1]
    have x : 0 ≤ s * b.2.1 := Int.mul_nonneg c2 (by omega)
    rw [show t 0 - t 0 - s = -s by omega, show t 0 - t 0 + s = s by omega, Int.neg_mul, Int.zero_mul]
    omega
  · have := tI_pair h (show 0 < i by omega) hi
    rw [l1, Int.sub_zero] at this
    exact this
theorem feas_new {k : Nat} {t : Nat → Int} {s lo hi n : Int} {ν : List Int} {b : zB} (C : zCt k t s lo hi) (h : tI t s lo hi ν b) (hl : ν.length < k) (h1 : tN ν < n) (h2 : n ≤ bG b (t ν.length - t 0) s) (h3 : bL b (t ν.length - t 0) s ≤ n) : feas t s lo (ν ++ [n]) := by
  have h' := h
  obtain ⟨l0, l1, l2, l3, b1, b2, b3, b4, b5⟩ := h'
  have hn0 : 0 < n := by
    have := tI_nth h (show 0 < ν.length by omega)
    omega
  have g2 := (bG_iff (ap := t ν.length - t 0) (s := s) (n := n) b1.1).mp h2
  have g3 := (bL_iff (ap := t ν.length - t 0) (s := s) (n := n) b1 (by omega)).mp h3
  obtain ⟨q1, -, q2, -, q3, -, q4, -⟩ := b1
  have c2 : 0 ≤ s := C.2.1
  have hne : b.1 * b.2.2.2 ≤ b.2.2.1 * b.2.1 := by
    unfold bemp at b2
    have := of_decide_eq_false b2
    omega
  have eL : (ν ++ [n]).length = ν.length + 1 := by simp
  by_cases hc : (t ν.length - t 0 - s) * b.2.1 ≤ b.1 * n
  · obtain ⟨P, Q, p1, p2, p3, p4⟩ := feas_tI C h
    refine ⟨b.1, b.2.1, q1, q2, b3, fun i hi => ?_⟩
    rw [eL] at hi
    by_cases e : i = ν.length
    · subst e
      rw [nth_e]
      rw [Int.mul_comm b.1 n] at hc
      exact ⟨hc, g2⟩
    · rw [nth_l (by omega)]
      by_cases e0 : i = 0
      · subst e0
        rw [l1]
        have x : 0 ≤ s * b.2.1 := Int.mul_nonneg c2 (by omega)
        rw [show t 0 - t 0 - s = -s by omega, show t 0 - t 0 + s = s by omega, Int.neg_mul, Int.zero_mul]
        omega
      · have := tI_pair h (show 0 < i by omega) (show i < ν.length by omega)
        rw [l1, Int.sub_zero] at this
        exact this
  · have hP : 0 < t ν.length - t 0 - s := by
      refine Decidable.byContradiction (fun hh => ?_)
      have x1 : (t ν.length - t 0 - s) * b.2.1 ≤ 0 := Int.mul_nonpos_of_nonpos_of_nonneg (by omega) (by omega)
      have x2 : 0 < b.1 * n := Int.mul_pos q1 hn0
      omega
    have hlow : b.1 * n ≤ (t ν.length - t 0 - s) * b.2.1 := by omega
    refine ⟨t ν.length - t 0 - s, n, hP, hn0, ?_, fun i hi => ?_⟩
    · have x := fr_tr (a := lo) (b := 1) (c := b.1) (d := b.2.1) (e := t ν.length - t 0 - s) (f := n) (by omega) q2 hn0 (by omega) hlow
      rw [Int.mul_one] at x
      exact x
    · rw [eL] at hi
      by_cases e : i = ν.length
      · subst e
        rw [nth_e, Int.mul_comm n]
        refine ⟨Int.le_refl _, Int.mul_le_mul_of_nonneg_right (by omega) (by omega)⟩
      · rw [nth_l (by omega)]
        by_cases e0 : i = 0
        · subst e0
          rw [l1]
          have x : 0 ≤ s * n := Int.mul_nonneg c2 (by omega)
          rw [show t 0 - t 0 - s = -s by omega, show t 0 - t 0 + s = s by omega, Int.neg_mul, Int.zero_mul]
          omega
        · obtain ⟨f1, f2⟩ := b5 0 i (by omega) (by omega)
          rw [l1, Int.sub_zero] at f1 f2
          have hp : 0 < nth ν i := by
            have := t_lt l2 (show 0 < i by omega) (show (i : Int) < (ν.length : Int) by omega)
            omega
          constructor
          · rw [Int.mul_comm (nth ν i)]
            exact fr_tr hp q2 hn0 f1 hlow
          · rw [Int.mul_comm (nth ν i)]
            have y : (t ν.length - t 0 - s) * b.2.2.2 ≤ b.2.2.1 * n := by rw [Int.mul_comm b.2.2.1 n]; exact g3
            exact fr_tr hn0 q4 hp y f2
theorem feas_lt {t : Nat → Int} {s lo : Int} {x y : List Int} (hs : 2 * s < lo) (hx : feas t s lo x) (hy : feas t s lo y) (hl : x.length = y.length) (hx0 : ∀ i : Nat, i < x.length → 0 ≤ nth x i) (hy0 : ∀ i : Nat, i < y.length → 0 ≤ nth y i) {a : Nat} (ha : a < x.length) (hlt : nth x a < nth y a) : ∀ i : Nat, i < x.length → nth x i ≤ nth y i := by
  obtain ⟨P, Q, p1, p2, p3, p4⟩ := hx
  obtain ⟨P2, Q2, r1, r2, r3, r4⟩ := hy
  have e1 : 2 * s * Q < P := by
    have : 2 * s * Q < lo * Q := Int.mul_lt_mul_of_pos_right hs p2
    omega
  have e2 : 2 * s * Q2 < P2 := by
    have : 2 * s * Q2 < lo * Q2 := Int.mul_lt_mul_of_pos_right hs r2
    omega
  rcases Int.le_total (P2 * Q) (P * Q2) with h | h
  · intro i hi
    exact fr_mono p1 p2 r2 (hy0 i (by omega)) h (p4 i hi).2 (r4 i (by omega)).1 e2
  · exfalso
    have := fr_mono (A := t a - t 0) (s := s) (u := nth y a) (u2 := nth x a) r1 r2 p2 (hx0 a ha) h (r4 a (by omega)).2 (p4 a ha).1 e1
    omega
