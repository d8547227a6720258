/-! PURE: evaluation of the printed functions -/
theorem gd_t {α : Type} {c : Prop} [Decidable c] {x : Option α} (h : c) : gd c x = x := if_pos h
theorem zlt_t {α β : Type} (e : α) (f : α → β) : zlt e f = f e := rfl
theorem zup_s {α : Type} {T : Nat → α} {i : Int} {x : α} {k : Nat} (h : k = i.toNat) : zup T i x k = x := if_pos h
theorem zup_n {α : Type} {T : Nat → α} {i : Int} {x : α} {k : Nat} (h : k ≠ i.toNat) : zup T i x k = T k := if_neg h
theorem zwhile {V R : Type} {st : V → Option (V ⊕ R)} (I : V → Prop) (μ : V → Nat) (P : R → Prop) (hs : ∀ v, I v → (∃ r, st v = some (.inr r) ∧ P r) ∨ (∃ v2, st v = some (.inl v2) ∧ I v2 ∧ μ v2 < μ v)) : ∀ v, I v → ∃ r, zev st v = some r ∧ P r := by
  have main : ∀ (n : Nat) (v : V), μ v < n → I v → ∃ r, zev st v = some r ∧ P r := by
    intro n
    induction n with
    | zero => intro v h; omega
    | succ n ih =>
      intro v h hI
      rcases hs v hI with ⟨r, e, hp⟩ | ⟨v2, e, h2, hm⟩
      · exact ⟨r, zev_inr e, hp⟩
      · obtain ⟨r, e2, hp⟩ := ih v2 (by omega) h2
        exact ⟨r, by rw [zev_inl e]; exact e2, hp⟩
  intro v hv
  exact main (μ v + 1) v (by omega) hv
theorem zgoto {V R : Type} {st : V → Option (V ⊕ R)} (I J : V → Prop) (μ : V → Nat) (hs : ∀ v, I v → ∃ v2, st v = some (.inl v2) ∧ (J v2 ∨ (I v2 ∧ μ v2 < μ v))) : ∀ v, I v → ∃ v2, J v2 ∧ zev st v = zev st v2 := by
  have main : ∀ (n : Nat) (v : V), μ v < n → I v → ∃ v2, J v2 ∧ zev st v = zev st v2 := by
    intro n
    induction n with
    | zero => intro v h; omega
    | succ n ih =>
      intro v h hI
      obtain ⟨v2, e, h2 | ⟨h2, hm⟩⟩ := hs v hI
      · exact ⟨v2, h2, zev_inl e⟩
      · obtain ⟨v3, h3, e3⟩ := ih v2 (by omega) h2
        exact ⟨v3, h3, by rw [zev_inl e]; exact e3⟩
  intro v hv
  exact main (μ v + 1) v (by omega) hv
theorem e_in {a b c : Int} (ha : zR a) (hb : zR b) (hc : zR c) : f_X7_in a b c = some (if b ≤ a ∧ a ≤ c then 1 else 0) := by
  unfold f_X7_in
  rw [gd_t ⟨ha, hb, hc⟩]
  by_cases h1 : a < b
  · rw [if_pos h1, if_neg (by omega)]
  · rw [if_neg h1]
    by_cases h2 : a ≤ c
    · rw [if_pos h2, if_pos ⟨by omega, h2⟩]
    · rw [if_neg h2, if_neg (by omega)]
theorem e_hasArrival {p1 az : Int} (hp : zR p1) (h0 : 0 ≤ az) (h7 : az ≤ 7) : f_X1_hasArrival p1 az = some (if 0 ≤ p1 ∧ p1 < az then 1 else 0) := by
  obtain ⟨hp1, hp2⟩ := hp
  by_cases h1 : p1 < 0
  · simp (disch := omega) only [f_X1_hasArrival, gd_t, if_pos, if_neg]
  · by_cases h2 : p1 < az
    · simp (disch := omega) only [f_X1_hasArrival, gd_t, if_pos, if_neg]
    · simp (disch := omega) only [f_X1_hasArrival, gd_t, if_pos, if_neg]
theorem e_isArrival {p1 : Int} {R : Nat → Int} (hp : zR p1) (h0 : 0 ≤ R 0) (h7 : R 0 ≤ 7) : f_X7_isArrival p1 R = some (if 0 ≤ p1 ∧ p1 < R 0 then 1 else 0) := by
  unfold f_X7_isArrival
  rw [gd_t hp, gd_t ⟨by omega, by omega⟩, e_in hp ⟨by omega, by omega⟩ ⟨by omega, by omega⟩, Option.bind_some]
  by_cases h : 0 ≤ p1 ∧ p1 < R 0
  · rw [if_pos h, if_pos ⟨h.1, by omega⟩, gd_t (by omega)]
  · rw [if_neg h, if_neg (by omega), gd_t (by omega)]
theorem e_take (az alo ahi asl : Int) (aT : Nat → Int) (bz blo bhi bsl : Int) (bT : Nat → Int) : ∃ T, f_X1_take az alo ahi asl aT bz blo bhi bsl bT = some (bz, blo, bhi, bsl, T) ∧ ∀ k : Nat, k < 7 → T k = bT k := by
  unfold f_X1_take
  obtain ⟨r, e, T, h1, h2⟩ := zwhile (st := st_X1_take bz blo bhi bsl bT) (fun v => 0 ≤ v.1 ∧ v.1 ≤ 7 ∧ ∀ k : Nat, (k : Int) < v.1 → v.2.2.2.2.2 k = bT k) (fun v => (7 - v.1).toNat) (fun r => ∃ T, r = (bz, blo, bhi, bsl, T) ∧ ∀ k : Nat, k < 7 → T k = bT k) (by
    rintro ⟨x, a, b, c, d, T⟩ ⟨h0, h7, hT⟩
    dsimp only at h0 h7 hT
    by_cases h : x < 7
    · refine Or.inr ⟨(x + 1, a, b, c, d, zup T x (bT x.toNat)), by simp (disch := omega) only [st_X1_take, gd_t, if_pos], ⟨by show 0 ≤ x + 1; omega, by show x + 1 ≤ 7; omega, fun k hk => ?_⟩, by show (7 - (x + 1)).toNat < (7 - x).toNat; omega⟩
      have hk : (k : Int) < x + 1 := hk
      show zup T x (bT x.toNat) k = bT k
      by_cases e : k = x.toNat
      · rw [zup_s e, e]
      · rw [zup_n e]; exact hT k (by omega)
    · exact Or.inl ⟨_, by simp (disch := omega) only [st_X1_take, gd_t, if_neg], T, rfl, fun k hk => hT k (by omega)⟩) (0, az, alo, ahi, asl, aT) ⟨by show (0 : Int) ≤ 0; omega, by show (0 : Int) ≤ 7; omega, fun k hk => by exfalso; have : (k : Int) < 0 := hk; omega⟩
  exact ⟨T, by rw [e, h1], h2⟩
theorem e_copyAll (q t : Nat → Int) : ∃ T, f_X7_copyAll q t = some T ∧ ∀ k : Nat, k < 11 → T k = q k := by
  unfold f_X7_copyAll
  exact zwhile (st := st_X7_copyAll q) (fun v => 0 ≤ v.1 ∧ v.1 ≤ 11 ∧ ∀ k : Nat, (k : Int) < v.1 → v.2 k = q k) (fun v => (11 - v.1).toNat) (fun T => ∀ k : Nat, k < 11 → T k = q k) (by
    rintro ⟨x, T⟩ ⟨h0, h7, hT⟩
    dsimp only at h0 h7 hT
    by_cases h : x < 11
    · refine Or.inr ⟨(x + 1, zup T x (q x.toNat)), by simp (disch := omega) only [st_X7_copyAll, gd_t, if_pos], ⟨by show 0 ≤ x + 1; omega, by show x + 1 ≤ 11; omega, fun k hk => ?_⟩, by show (11 - (x + 1)).toNat < (11 - x).toNat; omega⟩
      have hk : (k : Int) < x + 1 := hk
      show zup T x (q x.toNat) k = q k
      by_cases e : k = x.toNat
      · rw [zup_s e, e]
      · rw [zup_n e]; exact hT k (by omega)
    · exact Or.inl ⟨_, by simp (disch := omega) only [st_X7_copyAll, gd_t, if_neg], fun k hk => hT k (by omega)⟩) (0, t) ⟨by show (0 : Int) ≤ 0; omega, by show (0 : Int) ≤ 11; omega, fun k hk => by exfalso; have : (k : Int) < 0 := hk; omega⟩
