/-! PURE: the arrivals that stay -/
theorem nth_app (l r : List Int) (i : Nat) : nth (l ++ r) i = if i < l.length then nth l i else nth r (i - l.length) := by
  unfold nth
  rw [List.getElem?_append]
  split <;> rfl
def kp (T : Nat → Int) (σ : Nat) : Nat → List Int
  | 0 => []
  | a + 1 => kp T σ a ++ (if bt σ a = true then [T a] else [])
def ku (T : Nat → Int) (σ : Nat) : Nat → Nat → List Int
  | 0, _ => []
  | d + 1, a => (if bt σ a = true then [T a] else []) ++ ku T σ d (a + 1)
theorem kp_ku (T : Nat → Int) (σ : Nat) : ∀ d a : Nat, kp T σ a ++ ku T σ d a = kp T σ (a + d) := by
  intro d
  induction d with
  | zero => intro a; exact List.append_nil _
  | succ d ih =>
    intro a
    have := ih (a + 1)
    simp only [kp] at this
    simp only [ku]
    rw [← List.append_assoc, this, show a + 1 + d = a + (d + 1) by omega]
theorem ku_len (T : Nat → Int) (σ : Nat) : ∀ d a : Nat, (ku T σ d a).length ≤ d := by
  intro d
  induction d with
  | zero => intro a; exact Nat.le_refl _
  | succ d ih =>
    intro a
    have := ih (a + 1)
    simp only [ku]
    rw [List.length_append]
    split
    · simp only [List.length_cons, List.length_nil]; omega
    · simp only [List.length_nil]; omega
theorem kp_len (T : Nat → Int) (σ : Nat) (a : Nat) : (kp T σ a).length ≤ a := by
  have h1 := kp_ku T σ a 0
  have h2 := ku_len T σ a 0
  rw [Nat.zero_add] at h1
  rw [← h1]
  exact h2
theorem kp_mem (T : Nat → Int) (σ : Nat) : ∀ a i : Nat, i < (kp T σ a).length → ∃ j : Nat, j < a ∧ nth (kp T σ a) i = T j := by
  intro a
  induction a with
  | zero => intro i h; exact absurd h (Nat.not_lt_zero i)
  | succ a ih =>
    intro i h
    simp only [kp] at h ⊢
    rw [nth_app]
    by_cases c : i < (kp T σ a).length
    · rw [if_pos c]
      obtain ⟨j, h1, h2⟩ := ih i c
      exact ⟨j, by omega, h2⟩
    · rw [if_neg c]
      rw [List.length_append] at h
      by_cases b : bt σ a = true
      · rw [if_pos b] at h ⊢
        simp only [List.length_cons, List.length_nil] at h
        refine ⟨a, by omega, ?_⟩
        rw [show i - (kp T σ a).length = 0 by omega]
        rfl
      · rw [if_neg b] at h
        simp only [List.length_nil] at h
        omega
theorem kp_inc {T : Nat → Int} {n : Nat} (σ : Nat) (hT : ∀ i j : Nat, i < j → j < n → T i < T j) : ∀ a : Nat, a ≤ n → ∀ i : Nat, i + 1 < (kp T σ a).length → nth (kp T σ a) i < nth (kp T σ a) (i + 1) := by
  intro a
  induction a with
  | zero => intro _ i h; exact absurd h (Nat.not_lt_zero _)
  | succ a ih =>
    intro ha i h
    simp only [kp] at h ⊢
    rw [nth_app, nth_app]
    rw [List.length_append] at h
    by_cases b : bt σ a = true
    · rw [if_pos b] at h ⊢
      simp only [List.length_cons, List.length_nil] at h
      rw [if_pos (show i < (kp T σ a).length by omega)]
      by_cases c : i + 1 < (kp T σ a).length
      · rw [if_pos c]; exact ih (by omega) i c
      · rw [if_neg c, show i + 1 - (kp T σ a).length = 0 by omega]
        obtain ⟨j, h1, h2⟩ := kp_mem T σ a i (by omega)
        rw [h2]
        exact hT j a h1 (by omega)
    · rw [if_neg b] at h ⊢
      simp only [List.length_nil] at h
      rw [if_pos (by omega), if_pos (by omega)]
      exact ih (by omega) i (by omega)
theorem zHear_kp {z lo hi sl : Int} {T : Nat → Int} (σ : Nat) (h : zHear z lo hi sl T) : zHear ((kp T σ z.toNat).length : Int) lo hi sl (nth (kp T σ z.toNat)) := by
  obtain ⟨a1, a2, a3, a4, a5, a6, a7, a8, a9, a10⟩ := h
  have hl := kp_len T σ z.toNat
  refine ⟨by omega, by omega, a3, a4, a5, a6, a7, a8, fun k hk => ?_, fun k hk => ?_⟩
  · obtain ⟨j, h1, h2⟩ := kp_mem T σ z.toNat k (by omega)
    rw [h2]
    exact a9 j (by omega)
  · exact kp_inc (T := T) σ (fun i j h1 h2 => t_lt a10 h1 (by omega)) z.toNat (Nat.le_refl _) k (by omega)
theorem zHear_congr {z lo hi sl : Int} {T T2 : Nat → Int} (h : zHear z lo hi sl T) (e : ∀ k : Nat, (k : Int) < z → T2 k = T k) : zHear z lo hi sl T2 := by
  obtain ⟨a1, a2, a3, a4, a5, a6, a7, a8, a9, a10⟩ := h
  refine ⟨a1, a2, a3, a4, a5, a6, a7, a8, fun k hk => ?_, fun k hk => ?_⟩
  · rw [e k hk]; exact a9 k hk
  · rw [e k (by omega), e (k + 1) (by omega)]; exact a10 k hk
theorem tA_congr {k : Nat} {t t2 : Nat → Int} {s lo hi : Int} (h : ∀ i : Nat, i < k → t i = t2 i) : tA k t s lo hi = tA k t2 s lo hi := by
  unfold tA
  by_cases hk : k = 0
  · rw [if_pos hk, if_pos hk]
  · rw [if_neg hk, if_neg hk]
    exact tE_congr (k - 1) [0] _ (fun i hil => h i (by simp only [List.length_cons, List.length_nil] at hil; omega))
/-- how many stand of those that stay -/
def oneL (T : Nat → Int) (n : Nat) (s lo hi : Int) (σ : Nat) : Nat := (tA (kp T σ n).length (nth (kp T σ n)) s lo hi).length
theorem c_lo {n σ : Nat} {T : Nat → Int} {blo bhi bsl nz nr nb ne : Int} {nT nN nG nLU nLL nHU nHL : Nat → Int} (hn : n ≤ 7) (hσ : σ < 128) (hT : ∀ i : Nat, i < n → 0 ≤ T i ∧ T i ≤ 2999) (hI : ∀ i j : Nat, i < j → j < n → T i < T j) : ∀ (d a : Nat) (bT : Nat → Int), a + d = n → (∀ i : Nat, i < (kp T σ a).length → bT i = nth (kp T σ a) i) → ∃ bT2 : Nat → Int, (∀ i : Nat, i < (kp T σ n).length → bT2 i = nth (kp T σ n) i) ∧ zev (st_X6_leavesOne (σ : Int) (n : Int) T) ((a : Int), ((kp T σ a).length : Int), blo, bhi, bsl, bT, nz, nr, nb, ne, nT, nN, nG, nLU, nLL, nHU, nHL) = zev (st_X6_leavesOne (σ : Int) (n : Int) T) ((n : Int), ((kp T σ n).length : Int), blo, bhi, bsl, bT2, nz, nr, nb, ne, nT, nN, nG, nLU, nLL, nHU, nHL) := by
  intro d
  induction d with
  | zero =>
    intro a bT h hb
    have : a = n := by omega
    subst this
    exact ⟨bT, hb, rfl⟩
  | succ d ih =>
    intro a bT h hb
    have hl := kp_len T σ a
    have hz := bt_z σ hσ a (by omega)
    have hTa := hT a (by omega)
    have r1 : zR (a : Int) := ⟨by omega, by omega⟩
    have r2 : zR (n : Int) := ⟨by omega, by omega⟩
    have hlt : ∀ k : Nat, k < (kp T σ a).length → bT k < T a := fun k hk => by
      obtain ⟨j, h1, h2⟩ := kp_mem T σ a k hk
      rw [hb k hk, h2]
      exact hI j a h1 (by omega)
    by_cases b : bt σ a = true
    · rw [if_pos b] at hz
      have ek : kp T σ (a + 1) = kp T σ a ++ [T a] := by
        simp only [kp]
        rw [if_pos b]
      have el : (kp T σ (a + 1)).length = (kp T σ a).length + 1 := by rw [ek]; simp
      obtain ⟨q, T2, ep, ⟨i1, i2, i3, i4⟩, c1, c2⟩ := e_place (p1 := T a) (az := ((kp T σ a).length : Int)) (T := bT) ⟨by omega, by omega⟩ (by omega) (by omega) (fun k hk => by
        have := hlt k (by omega)
        obtain ⟨j, h1, h2⟩ := kp_mem T σ a k (by omega)
        have h3 := hb k (by omega)
        have h4 := hT j (by omega)
        exact ⟨by omega, by omega⟩)
      have hq : q = (kp T σ a).length := by
        refine Decidable.byContradiction (fun hc => ?_)
        have u := c1 q (Nat.le_refl q) (by omega)
        have v := hlt q (by omega)
        omega
      obtain ⟨bT2, g1, g2⟩ := ih (a + 1) T2 (by omega) (fun i hil => by
        rw [el] at hil
        rw [ek, nth_app]
        by_cases c : i < (kp T σ a).length
        · rw [if_pos c, i2 i (by omega)]; exact hb i c
        · rw [if_neg c, show i = q by omega, i3, show q - (kp T σ a).length = 0 by omega]
          rfl)
      refine ⟨bT2, g1, ?_⟩
      rw [← g2, el, show ((a + 1 : Nat) : Int) = (a : Int) + 1 by omega, show (((kp T σ a).length + 1 : Nat) : Int) = ((kp T σ a).length : Int) + 1 by omega]
      refine zev_inl ?_
      unfold st_X6_leavesOne
      dsimp only
      rw [gd_t ⟨r1, r2⟩, if_pos (by omega), hz, gd_t ⟨zRone, zRone⟩, if_pos rfl, gd_t ⟨by omega, by omega⟩, Int.toNat_natCast, ep, Option.bind_some]
    · rw [if_neg b] at hz
      have ek : kp T σ (a + 1) = kp T σ a := by
        simp only [kp]
        rw [if_neg b, List.append_nil]
      obtain ⟨bT2, g1, g2⟩ := ih (a + 1) bT (by omega) (by rw [ek]; exact hb)
      refine ⟨bT2, g1, ?_⟩
      rw [← g2, ek, show ((a + 1 : Nat) : Int) = (a : Int) + 1 by omega]
      refine zev_inl ?_
      unfold st_X6_leavesOne
      dsimp only
      rw [gd_t ⟨r1, r2⟩, if_pos (by omega), hz, gd_t ⟨zR0, zRone⟩, if_neg (by omega)]
theorem e_leavesOne (bz blo bhi bsl : Int) (bT : Nat → Int) (nz nr nb ne : Int) (nT nN nG nLU nLL nHU nHL : Nat → Int) {z lo hi sl : Int} {T : Nat → Int} {σ : Nat} (h : zHear z lo hi sl T) (hσ : σ < 128) : ∃ (z2 lo2 hi2 sl2 : Int) (bT2 : Nat → Int) (z3 s3 b3 e3 : Int) (T3 N3 G3 LU3 LL3 HU3 HL3 : Nat → Int), f_X6_leavesOne (σ : Int) z lo hi sl T bz blo bhi bsl bT nz nr nb ne nT nN nG nLU nLL nHU nHL = some ((if oneL T z.toNat (2 * sl) lo hi σ = 1 then 1 else 0), z2, lo2, hi2, sl2, bT2, z3, s3, b3, e3, T3, N3, G3, LU3, LL3, HU3, HL3) := by
  have hk := zHear_kp σ h
  have h' := h
  obtain ⟨a1, a2, a3, a4, a5, a6, a7, a8, a9, a10⟩ := h'
  have hz : ((z.toNat : Nat) : Int) = z := by omega
  obtain ⟨S, e4, hS⟩ := e_take bz blo bhi bsl bT z lo hi sl T
  obtain ⟨B, g1, g2⟩ := c_lo (n := z.toNat) (σ := σ) (T := T) (blo := lo) (bhi := hi) (bsl := sl) (nz := nz) (nr := nr) (nb := nb) (ne := ne) (nT := nT) (nN := nN) (nG := nG) (nLU := nLU) (nLL := nLL) (nHU := nHU) (nHL := nHL) (by omega) hσ (fun i hik => a9 i (by omega)) (fun i j h1 h2 => t_lt a10 h1 (by omega)) z.toNat 0 S (by omega) (fun i hi0 => absurd hi0 (Nat.not_lt_zero i))
  rw [hz] at g2
  have g2 : zev (st_X6_leavesOne (σ : Int) z T) (0, 0, lo, hi, sl, S, nz, nr, nb, ne, nT, nN, nG, nLU, nLL, nHU, nHL) = zev (st_X6_leavesOne (σ : Int) z T) (z, ((kp T σ z.toNat).length : Int), lo, hi, sl, B, nz, nr, nb, ne, nT, nN, nG, nLU, nLL, nHU, nHL) := g2
  have hB := zHear_congr hk (T2 := B) (fun k hk2 => g1 k (by omega))
  have C := zCt_of hB
  rw [Int.toNat_natCast] at C
  obtain ⟨b5, e5, T5, N5, LU5, LL5, HU5, HL5, eb, hI, hk5⟩ := e_begin nz nr nb ne nT nN nG nLU nLL nHU nHL hB
  rw [Int.toNat_natCast] at hI hk5
  obtain ⟨j, b6, e6, N6, G6, LU6, LL6, HU6, HL6, et, hj, -⟩ := e_tally (p := 2) C hk5 hI (by omega) (by omega)
  have eA : tA (kp T σ z.toNat).length B (2 * sl) lo hi = tA (kp T σ z.toNat).length (nth (kp T σ z.toNat)) (2 * sl) lo hi := tA_congr (fun i hil => g1 i hil)
  rw [eA] at hj
  have r1 : zR z := ⟨by omega, by omega⟩
  have rj : zR (j : Int) := ⟨by omega, by omega⟩
  have m : f_X6_leavesOne (σ : Int) z lo hi sl T bz blo bhi bsl bT nz nr nb ne nT nN nG nLU nLL nHU nHL = some ((if oneL T z.toNat (2 * sl) lo hi σ = 1 then 1 else 0), ((kp T σ z.toNat).length : Int), lo, hi, sl, B, ((kp T σ z.toNat).length : Int), 2 * sl, b6, e6, T5, N6, G6, LU6, LL6, HU6, HL6) := by
    unfold f_X6_leavesOne
    rw [e4, Option.bind_some]
    dsimp only
    rw [g2]
    refine zev_inr ?_
    unfold st_X6_leavesOne
    dsimp only
    rw [gd_t ⟨r1, r1⟩, if_neg (by omega), eb, Option.bind_some]
    dsimp only
    rw [et, Option.bind_some]
    dsimp only
    rw [gd_t ⟨rj, zRone⟩]
    unfold oneL
    by_cases c : (j : Int) = 1
    · rw [if_pos c, if_pos (by omega)]
    · rw [if_neg c, if_neg (by omega)]
  exact ⟨_, _, _, _, _, _, _, _, _, _, _, _, _, _, _, _, m⟩
