/-! PURE: all numberings, how many steps they cost -/
def tE (t : Nat → Int) (s : Int) : Nat → List Int → zB → List (List Int × zB)
  | 0, ν, b => [(ν, b)]
  | d + 1, ν, b => (cands (bG b (t ν.length - t 0) s - tN ν).toNat (tN ν)).flatMap (fun n => if bemp (tb t s ν b n) = true then [] else tE t s d (ν ++ [n]) (tb t s ν b n))
/-- just below the first number that the class tries -/
def tM (t : Nat → Int) (s : Int) (ν : List Int) (b : zB) : Int := max (tN ν + 1) (bL b (t ν.length - t 0) s) - 1
def tc (t : Nat → Int) (s : Int) (ν : List Int) (b : zB) : List Int := cands (bG b (t ν.length - t 0) s - tM t s ν b).toNat (tM t s ν b)
def tC (t : Nat → Int) (s : Int) : Nat → List Int → zB → Nat
  | 0, _, _ => 0
  | d + 1, ν, b => ((tc t s ν b).map (fun n => 1 + (if bemp (tb t s ν b n) = true then 0 else tC t s d (ν ++ [n]) (tb t s ν b n)))).sum + 1
def tV (t : Nat → Int) (s : Int) : Nat → List Int → zB → Nat → List (List Int)
  | 0, _, _, _ => []
  | _ + 1, ν, b, 0 => (tc t s ν b).map (fun n => ν ++ [n])
  | d + 1, ν, b, j + 1 => (tc t s ν b).flatMap (fun n => if bemp (tb t s ν b n) = true then [] else tV t s d (ν ++ [n]) (tb t s ν b n) j)
theorem tc_mem {t : Nat → Int} {s n : Int} {ν : List Int} {b : zB} (h : n ∈ tc t s ν b) : tN ν < n ∧ n ≤ bG b (t ν.length - t 0) s ∧ bL b (t ν.length - t 0) s ≤ n := by
  have := (cands_mem _ _ _).mp h
  unfold tM at this
  omega
theorem tV_mem {k : Nat} {t : Nat → Int} {s lo hi : Int} (C : zCt k t s lo hi) : ∀ (d : Nat) (ν : List Int) (b : zB) (j : Nat) (x : List Int), tI t s lo hi ν b → ν.length + d ≤ k → x ∈ tV t s d ν b j → (∃ r, x = ν ++ r) ∧ x.length = ν.length + 1 + j ∧ feas t s lo x ∧ ∀ i : Nat, i < x.length → 0 ≤ nth x i ∧ nth x i ≤ 320 := by
  intro d
  induction d with
  | zero => intro ν b j x _ _ hx; exact absurd hx List.not_mem_nil
  | succ d ih =>
    intro ν b j x hI hk hx
    cases j with
    | zero =>
      obtain ⟨n, hn, rfl⟩ := List.mem_map.mp hx
      obtain ⟨n1, n2, n3⟩ := tc_mem hn
      have eL : (ν ++ [n]).length = ν.length + 1 := by simp
      refine ⟨⟨[n], rfl⟩, by omega, feas_new C hI (by omega) n1 n2 n3, fun i hi => ?_⟩
      obtain ⟨g1, -⟩ := tI_bd C hI (by omega) n1 n2
      have g0 := tI_nth hI (show 0 < ν.length from hI.1)
      rw [eL] at hi
      by_cases e : i = ν.length
      · rw [e, nth_e]; omega
      · rw [nth_l (by omega)]
        have := tI_nth hI (show i < ν.length by omega)
        have := hI.2.2.2.1
        omega
    | succ j =>
      obtain ⟨n, hn, hx⟩ := List.mem_flatMap.mp hx
      obtain ⟨n1, n2, n3⟩ := tc_mem hn
      by_cases he : bemp (tb t s ν b n) = true
      · rw [if_pos he] at hx; exact absurd hx List.not_mem_nil
      · rw [if_neg he] at hx
        have he : bemp (tb t s ν b n) = false := by simpa using he
        have eL : (ν ++ [n]).length = ν.length + 1 := by simp
        obtain ⟨⟨r, h1⟩, h2, h3⟩ := ih _ _ j x ((tI_step C hI (by omega) n1 n2).2.2 he) (by omega) hx
        exact ⟨⟨n :: r, by rw [h1, List.append_assoc]; rfl⟩, by omega, h3⟩
theorem tV_pw {k : Nat} {t : Nat → Int} {s lo hi : Int} (C : zCt k t s lo hi) : ∀ (d : Nat) (ν : List Int) (b : zB) (j : Nat), tI t s lo hi ν b → ν.length + d ≤ k → (tV t s d ν b j).Pairwise (fun x y => x.sum < y.sum) := by
  intro d
  induction d with
  | zero => intro ν b j _ _; exact List.Pairwise.nil
  | succ d ih =>
    intro ν b j hI hk
    cases j with
    | zero =>
      refine List.pairwise_map.mpr ((cands_pw _ _).imp (fun {x y} h => ?_))
      rw [List.sum_append, List.sum_append, List.sum_cons, List.sum_cons, List.sum_nil]
      omega
    | succ j =>
      refine List.pairwise_flatMap.mpr ⟨fun n hn => ?_, ?_⟩
      · obtain ⟨n1, n2, n3⟩ := tc_mem hn
        by_cases he : bemp (tb t s ν b n) = true
        · rw [if_pos he]; exact List.Pairwise.nil
        · rw [if_neg he]
          have he : bemp (tb t s ν b n) = false := by simpa using he
          have eL : (ν ++ [n]).length = ν.length + 1 := by simp
          exact ih _ _ j ((tI_step C hI (by omega) n1 n2).2.2 he) (by omega)
      · have hm : ∀ n, n ∈ tc t s ν b → ∀ x, x ∈ (if bemp (tb t s ν b n) = true then [] else tV t s d (ν ++ [n]) (tb t s ν b n) j) → nth x ν.length = n ∧ x.length = ν.length + 2 + j ∧ feas t s lo x ∧ ∀ i : Nat, i < x.length → 0 ≤ nth x i ∧ nth x i ≤ 320 := by
          intro n hn x hx
          obtain ⟨n1, n2, n3⟩ := tc_mem hn
          by_cases he : bemp (tb t s ν b n) = true
          · rw [if_pos he] at hx; exact absurd hx List.not_mem_nil
          · rw [if_neg he] at hx
            have he : bemp (tb t s ν b n) = false := by simpa using he
            have eL : (ν ++ [n]).length = ν.length + 1 := by simp
            obtain ⟨⟨r, h1⟩, h2, h3, h4⟩ := tV_mem C d _ _ j x ((tI_step C hI (by omega) n1 n2).2.2 he) (by omega) hx
            refine ⟨?_, by omega, h3, h4⟩
            rw [h1, nth_r (by omega), nth_e]
        refine List.Pairwise.imp_of_mem (fun {n n2} hn hn2 hlt => ?_) (cands_pw _ _)
        intro x hx y hy
        obtain ⟨x1, x2, x3, x4⟩ := hm n hn x hx
        obtain ⟨y1, y2, y3, y4⟩ := hm n2 hn2 y hy
        have hle := feas_lt (a := ν.length) C.2.2.2.1 x3 y3 (by omega) (fun i hi => (x4 i hi).1) (fun i hi => (y4 i hi).1) (by omega) (by omega)
        exact (lsum_le x y (by omega) hle).2 ⟨ν.length, by omega, by omega⟩
theorem tV_len {k : Nat} {t : Nat → Int} {s lo hi : Int} (C : zCt k t s lo hi) (d : Nat) (ν : List Int) (b : zB) (j : Nat) (hI : tI t s lo hi ν b) (hk : ν.length + d ≤ k) (hj : j < d) : (tV t s d ν b j).length ≤ 2241 := by
  have hk7 : k ≤ 7 := C.1
  rcases pw_len (fun x : List Int => x.sum) 2240 (tV t s d ν b j) 0 (tV_pw C d ν b j hI hk) (fun x hx => by
    obtain ⟨-, h2, -, h4⟩ := tV_mem C d ν b j x hI hk hx
    obtain ⟨g1, g2⟩ := lsum_bd x h4
    exact ⟨g1, by omega⟩) with h | h
  · omega
  · rw [h]; exact Nat.zero_le _
theorem sum_add {α : Type} (l : List α) (f g : α → Nat) : (l.map (fun x => f x + g x)).sum = (l.map f).sum + (l.map g).sum := by
  induction l with
  | nil => rfl
  | cons x l ih => simp only [List.map_cons, List.sum_cons, ih]; omega
theorem sum_le {α : Type} (l : List α) (f g : α → Nat) (h : ∀ x, x ∈ l → f x ≤ g x) : (l.map f).sum ≤ (l.map g).sum := by
  induction l with
  | nil => exact Nat.le_refl _
  | cons x l ih =>
    simp only [List.map_cons, List.sum_cons]
    have h1 := h x List.mem_cons_self
    have h2 := ih (fun y hy => h y (List.mem_cons_of_mem _ hy))
    omega
/-- how many are visited, level by level -/
def tS (t : Nat → Int) (s : Int) (d : Nat) (ν : List Int) (b : zB) : Nat → Nat
  | 0 => 0
  | j + 1 => tS t s d ν b j + (tV t s d ν b j).length
theorem tS_succ {t : Nat → Int} {s : Int} {d : Nat} {ν : List Int} {b : zB} : ∀ j : Nat, tS t s (d + 1) ν b (j + 1) = (tc t s ν b).length + ((tc t s ν b).map (fun n => if bemp (tb t s ν b n) = true then 0 else tS t s d (ν ++ [n]) (tb t s ν b n) j)).sum := by
  intro j
  induction j with
  | zero =>
    have e : ((tc t s ν b).map (fun n => if bemp (tb t s ν b n) = true then 0 else tS t s d (ν ++ [n]) (tb t s ν b n) 0)).sum = 0 := by
      have h := sum_le (tc t s ν b) (fun n => if bemp (tb t s ν b n) = true then 0 else tS t s d (ν ++ [n]) (tb t s ν b n) 0) (fun _ => 0) (fun n _ => by split <;> exact Nat.le_refl _)
      have z : ((tc t s ν b).map (fun _ => 0)).sum = 0 := by
        induction tc t s ν b with
        | nil => rfl
        | cons x l ih => simp only [List.map_cons, List.sum_cons, ih]
      omega
    rw [e]
    simp only [tS, tV, List.length_map]
    omega
  | succ j ih =>
    have e1 : tS t s (d + 1) ν b (j + 1 + 1) = tS t s (d + 1) ν b (j + 1) + (tV t s (d + 1) ν b (j + 1)).length := rfl
    rw [e1, ih]
    have e2 : (tV t s (d + 1) ν b (j + 1)).length = ((tc t s ν b).map (fun n => if bemp (tb t s ν b n) = true then 0 else (tV t s d (ν ++ [n]) (tb t s ν b n) j).length)).sum := by
      show ((tc t s ν b).flatMap _).length = _
      rw [List.length_flatMap]
      congr 1
      apply List.map_congr_left
      intro n _
      split <;> rfl
    rw [e2]
    have e3 : ((tc t s ν b).map (fun n => if bemp (tb t s ν b n) = true then 0 else tS t s d (ν ++ [n]) (tb t s ν b n) (j + 1))).sum = ((tc t s ν b).map (fun n => (if bemp (tb t s ν b n) = true then 0 else tS t s d (ν ++ [n]) (tb t s ν b n) j) + (if bemp (tb t s ν b n) = true then 0 else (tV t s d (ν ++ [n]) (tb t s ν b n) j).length))).sum := by
      congr 1
      apply List.map_congr_left
      intro n _
      split <;> rfl
    rw [e3, sum_add]
    omega
theorem tC_tS {t : Nat → Int} {s : Int} : ∀ (d : Nat) (ν : List Int) (b : zB), tC t s d ν b ≤ 1 + 2 * tS t s d ν b d := by
  intro d
  induction d with
  | zero => intro ν b; exact Nat.zero_le _
  | succ d ih =>
    intro ν b
    rw [tS_succ]
    have h : ((tc t s ν b).map (fun n => 1 + (if bemp (tb t s ν b n) = true then 0 else tC t s d (ν ++ [n]) (tb t s ν b n)))).sum ≤ ((tc t s ν b).map (fun n => (2 + 0) + ((if bemp (tb t s ν b n) = true then 0 else tS t s d (ν ++ [n]) (tb t s ν b n) d) + (if bemp (tb t s ν b n) = true then 0 else tS t s d (ν ++ [n]) (tb t s ν b n) d)))).sum := by
      refine sum_le _ _ _ (fun n _ => ?_)
      split
      · omega
      · have := ih (ν ++ [n]) (tb t s ν b n)
        omega
    have e1 := sum_add (tc t s ν b) (fun _ => 2 + 0) (fun n => (if bemp (tb t s ν b n) = true then 0 else tS t s d (ν ++ [n]) (tb t s ν b n) d) + (if bemp (tb t s ν b n) = true then 0 else tS t s d (ν ++ [n]) (tb t s ν b n) d))
    have e2 := sum_add (tc t s ν b) (fun n => if bemp (tb t s ν b n) = true then 0 else tS t s d (ν ++ [n]) (tb t s ν b n) d) (fun n => if bemp (tb t s ν b n) = true then 0 else tS t s d (ν ++ [n]) (tb t s ν b n) d)
    have z : ((tc t s ν b).map (fun _ => 2 + 0)).sum = 2 * (tc t s ν b).length := by
      induction tc t s ν b with
      | nil => rfl
      | cons x l ih => simp only [List.map_cons, List.sum_cons, List.length_cons, ih]; omega
    rw [z] at e1
    show _ + 1 ≤ _
    omega
theorem tS_bd {k : Nat} {t : Nat → Int} {s lo hi : Int} (C : zCt k t s lo hi) (d : Nat) (ν : List Int) (b : zB) (hI : tI t s lo hi ν b) (hk : ν.length + d ≤ k) : ∀ j : Nat, j ≤ d → tS t s d ν b j ≤ 2241 * j := by
  intro j
  induction j with
  | zero => intro _; exact Nat.le_refl _
  | succ j ih =>
    intro hj
    have h1 := ih (by omega)
    have h2 := tV_len C d ν b j hI hk (by omega)
    show tS t s d ν b j + _ ≤ _
    omega
theorem tC_bd {k : Nat} {t : Nat → Int} {s lo hi : Int} (C : zCt k t s lo hi) (d : Nat) (ν : List Int) (b : zB) (hI : tI t s lo hi ν b) (hk : ν.length + d ≤ k) : tC t s d ν b ≤ 40000 := by
  have h1 := tC_tS (t := t) (s := s) d ν b
  have h2 := tS_bd C d ν b hI hk d (Nat.le_refl d)
  have hk7 : k ≤ 7 := C.1
  have : d ≤ 7 := by omega
  omega
theorem tE_mem {k : Nat} {t : Nat → Int} {s lo hi : Int} (C : zCt k t s lo hi) : ∀ (d : Nat) (ν : List Int) (b : zB) (z : List Int × zB), tI t s lo hi ν b → ν.length + d = k → z ∈ tE t s d ν b → tI t s lo hi z.1 z.2 ∧ (∃ r, z.1 = ν ++ r) ∧ z.1.length = k := by
  intro d
  induction d with
  | zero =>
    intro ν b z hI hk hz
    have : z = (ν, b) := by simpa [tE] using hz
    subst this
    exact ⟨hI, ⟨[], by simp⟩, hk⟩
  | succ d ih =>
    intro ν b z hI hk hz
    obtain ⟨n, hn, hz⟩ := List.mem_flatMap.mp hz
    have hn := (cands_mem _ _ _).mp hn
    by_cases he : bemp (tb t s ν b n) = true
    · rw [if_pos he] at hz; exact absurd hz List.not_mem_nil
    · rw [if_neg he] at hz
      have he : bemp (tb t s ν b n) = false := by simpa using he
      have eL : (ν ++ [n]).length = ν.length + 1 := by simp
      obtain ⟨h1, ⟨r, h2⟩, h3⟩ := ih _ _ z ((tI_step C hI (by omega) (by omega) (by omega)).2.2 he) (by omega) hz
      exact ⟨h1, ⟨n :: r, by rw [h2, List.append_assoc]; rfl⟩, h3⟩
/-- a later numbering has a lesser period: no gap's count falls -/
theorem tE_pw {k : Nat} {t : Nat → Int} {s lo hi : Int} (C : zCt k t s lo hi) : ∀ (d : Nat) (ν : List Int) (b : zB), tI t s lo hi ν b → ν.length + d = k → (tE t s d ν b).Pairwise (fun z w => z.1.sum < w.1.sum ∧ ∀ i j : Nat, i < j → j < k → nth z.1 j - nth z.1 i ≤ nth w.1 j - nth w.1 i) := by
  intro d
  induction d with
  | zero => intro ν b _ _; exact List.pairwise_singleton _ _
  | succ d ih =>
    intro ν b hI hk
    refine List.pairwise_flatMap.mpr ⟨fun n hn => ?_, ?_⟩
    · have hn := (cands_mem _ _ _).mp hn
      by_cases he : bemp (tb t s ν b n) = true
      · rw [if_pos he]; exact List.Pairwise.nil
      · rw [if_neg he]
        have he : bemp (tb t s ν b n) = false := by simpa using he
        have eL : (ν ++ [n]).length = ν.length + 1 := by simp
        exact ih _ _ ((tI_step C hI (by omega) (by omega) (by omega)).2.2 he) (by omega)
    · have hm : ∀ n, n ∈ cands (bG b (t ν.length - t 0) s - tN ν).toNat (tN ν) → ∀ z, z ∈ (if bemp (tb t s ν b n) = true then [] else tE t s d (ν ++ [n]) (tb t s ν b n)) → nth z.1 ν.length = n ∧ tI t s lo hi z.1 z.2 ∧ z.1.length = k := by
        intro n hn z hz
        have hn := (cands_mem _ _ _).mp hn
        by_cases he : bemp (tb t s ν b n) = true
        · rw [if_pos he] at hz; exact absurd hz List.not_mem_nil
        · rw [if_neg he] at hz
          have he : bemp (tb t s ν b n) = false := by simpa using he
          have eL : (ν ++ [n]).length = ν.length + 1 := by simp
          obtain ⟨h1, ⟨r, h2⟩, h3⟩ := tE_mem C d _ _ z ((tI_step C hI (by omega) (by omega) (by omega)).2.2 he) (by omega) hz
          refine ⟨?_, h1, h3⟩
          rw [h2, nth_r (by omega), nth_e]
      refine List.Pairwise.imp_of_mem (fun {n n2} hn hn2 hlt => ?_) (cands_pw _ _)
      intro z hz w hw
      obtain ⟨z1, z2, z3⟩ := hm n hn z hz
      obtain ⟨w1, w2, w3⟩ := hm n2 hn2 w hw
      have l0 := hI.1
      have hs : 2 * s < lo := C.2.2.2.1
      have z2' := z2
      have w2' := w2
      obtain ⟨-, zz, -, -, ⟨p1, -, p2, -⟩, -, p3, -⟩ := z2'
      obtain ⟨-, ww, -, -, ⟨r1, -, r2, -⟩, -, r3, -⟩ := w2'
      have e1 : 2 * s * z.2.2.1 < z.2.1 := by
        have : 2 * s * z.2.2.1 < lo * z.2.2.1 := Int.mul_lt_mul_of_pos_right hs p2
        omega
      have e2 : 2 * s * w.2.2.1 < w.2.1 := by
        have : 2 * s * w.2.2.1 < lo * w.2.2.1 := Int.mul_lt_mul_of_pos_right hs r2
        omega
      have hgap : ∀ i j : Nat, i < j → j < k → nth z.1 j - nth z.1 i ≤ nth w.1 j - nth w.1 i := by
        rcases Int.le_total (w.2.1 * z.2.2.1) (z.2.1 * w.2.2.1) with h | h
        · intro i j hij hj
          have hw0 : 0 ≤ nth w.1 j - nth w.1 i := by
            have := t_lt w2.2.2.1 hij (show (j : Int) < (w.1.length : Int) by omega)
            omega
          exact fr_mono p1 p2 r2 hw0 h (tI_pair z2 hij (by omega)).2 (tI_pair w2 hij (by omega)).1 e2
        · exfalso
          have a1 := tI_pair z2 l0 (show ν.length < z.1.length by omega)
          have a2 := tI_pair w2 l0 (show ν.length < w.1.length by omega)
          rw [zz, z1, Int.sub_zero] at a1
          rw [ww, w1, Int.sub_zero] at a2
          have hn0 : 0 ≤ n := by
            have g := tI_nth z2 (show ν.length < z.1.length by omega)
            omega
          have := fr_mono (A := t ν.length - t 0) (s := s) (u := n2) (u2 := n) r1 r2 p2 hn0 h a2.2 a1.1 e1
          omega
      refine ⟨(lsum_le z.1 w.1 (by omega) (fun i hi => ?_)).2 ⟨ν.length, by omega, by omega⟩, hgap⟩
      by_cases e : i = 0
      · rw [e, zz, ww]; exact Int.le_refl 0
      · have := hgap 0 i (by omega) (by omega)
        rw [zz, ww] at this
        omega
theorem tE_len {k : Nat} {t : Nat → Int} {s lo hi : Int} (C : zCt k t s lo hi) (d : Nat) (ν : List Int) (b : zB) (hI : tI t s lo hi ν b) (hk : ν.length + d = k) : (tE t s d ν b).length ≤ 2241 := by
  have hk7 : k ≤ 7 := C.1
  rcases pw_len (fun z : List Int × zB => z.1.sum) 2240 (tE t s d ν b) 0 ((tE_pw C d ν b hI hk).imp (fun h => h.1)) (fun z hz => by
    obtain ⟨h1, -, h3⟩ := tE_mem C d ν b z hI hk hz
    obtain ⟨g1, g2⟩ := lsum_bd z.1 (fun i hi => by
      have := tI_nth h1 hi
      have := h1.2.2.2.1
      omega)
    exact ⟨g1, by omega⟩) with h | h
  · omega
  · rw [h]; exact Nat.zero_le _
