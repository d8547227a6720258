/-! PURE: odds -/
theorem e_powA {b : Int} {e : Nat} (he : e ≤ 7) : ∀ (d a : Nat) (v : Int), a + d = e → zev (st_X6_power b (e : Int)) (v, (a : Int)) = some (v * b ^ d) := by
  intro d
  induction d with
  | zero =>
    intro a v h
    rw [Int.pow_zero, Int.mul_one]
    refine zev_inr ?_
    unfold st_X6_power
    dsimp only
    rw [gd_t ⟨⟨by omega, by omega⟩, by omega, by omega⟩, if_neg (by omega)]
  | succ d ih =>
    intro a v h
    have i := ih (a + 1) (v * b) (by omega)
    rw [show ((a + 1 : Nat) : Int) = (a : Int) + 1 by omega] at i
    have e1 : v * b ^ (d + 1) = v * b * b ^ d := by
      rw [Int.pow_succ, Int.mul_comm (b ^ d) b, ← Int.mul_assoc]
    rw [e1, ← i]
    refine zev_inl ?_
    unfold st_X6_power
    dsimp only
    rw [gd_t ⟨⟨by omega, by omega⟩, by omega, by omega⟩, if_pos (by omega), zlt_t]
theorem e_power {b e : Int} (h0 : 0 ≤ e) (h7 : e ≤ 7) : f_X6_power b e = some (b ^ e.toNat) := by
  have := e_powA (b := b) (e := e.toNat) (by omega) e.toNat 0 1 (by omega)
  rw [show ((e.toNat : Nat) : Int) = e by omega, Int.one_mul] at this
  exact this
theorem sumF_last (f : Nat → Int) : ∀ d a : Nat, sumF f (d + 1) a = sumF f d a + f (a + d) := by
  intro d
  induction d with
  | zero => intro a; simp only [sumF, Nat.add_zero]; omega
  | succ d ih =>
    intro a
    have := ih (a + 1)
    have e1 : sumF f (d + 1 + 1) a = f a + sumF f (d + 1) (a + 1) := rfl
    have e2 : sumF f (d + 1) a = f a + sumF f d (a + 1) := rfl
    rw [e1, e2, this, show a + 1 + d = a + (d + 1) by omega]
    omega
theorem sumF_rev (f : Nat → Int) (N : Nat) : ∀ d : Nat, d ≤ N → sumF (fun i => f (N - 1 - i)) d 0 = sumF f d (N - d) := by
  intro d
  induction d with
  | zero => intro _; rfl
  | succ d ih =>
    intro h
    rw [sumF_last, ih (by omega), Nat.zero_add]
    have e : sumF f (d + 1) (N - (d + 1)) = f (N - (d + 1)) + sumF f d (N - (d + 1) + 1) := rfl
    rw [e, show N - (d + 1) + 1 = N - d by omega, show N - (d + 1) = N - 1 - d by omega]
    omega
theorem sumF_le {f g : Nat → Int} : ∀ d a : Nat, (∀ i : Nat, i < a + d → 0 ≤ f i ∧ f i ≤ g i) → 0 ≤ sumF f d a ∧ sumF f d a ≤ sumF g d a := by
  intro d
  induction d with
  | zero => intro a _; exact ⟨Int.le_refl _, Int.le_refl _⟩
  | succ d ih =>
    intro a h
    have i := ih (a + 1) (fun i hi1 => h i (by omega))
    have j := h a (by omega)
    simp only [sumF]
    omega
theorem sumF_congr {f g : Nat → Int} : ∀ d a : Nat, (∀ i : Nat, i < a + d → f i = g i) → sumF f d a = sumF g d a := by
  intro d
  induction d with
  | zero => intro a _; rfl
  | succ d ih =>
    intro a h
    simp only [sumF]
    rw [h a (by omega), ih (a + 1) (fun i hi1 => h i (by omega))]
/-- what a set of lost arrivals adds -/
def cv (T : Nat → Int) (n : Nat) (s lo hi x : Int) (σ : Nat) : Int := if 0 < wdn x σ n 1 ∧ oneL T n s lo hi (2 ^ n - 1 - σ) = 1 then wdn x σ n 1 else 0
theorem c_odds {z lo hi sl p2 : Int} {T : Nat → Int} {x : Nat} (h : zHear z lo hi sl T) (hx : x < 11) : ∀ (d σ : Nat) (U bz blo bhi bsl : Int) (bT : Nat → Int) (nz nr nb ne : Int) (nT nN nG nLU nLL nHU nHL : Nat → Int), σ + d = 2 ^ z.toNat → ∃ (z2 lo2 hi2 sl2 : Int) (bT2 : Nat → Int) (z3 s3 b3 e3 : Int) (T3 N3 G3 LU3 LL3 HU3 HL3 : Nat → Int), zev (st_X6_odds (x : Int) p2 z lo hi sl T) (U, (σ : Int), bz, blo, bhi, bsl, bT, nz, nr, nb, ne, nT, nN, nG, nLU, nLL, nHU, nHL) = zev (st_X6_odds (x : Int) p2 z lo hi sl T) (U + sumF (fun i => cv T z.toNat (2 * sl) lo hi (x : Int) (2 ^ z.toNat - 1 - i)) d σ, ((2 ^ z.toNat : Nat) : Int), z2, lo2, hi2, sl2, bT2, z3, s3, b3, e3, T3, N3, G3, LU3, LL3, HU3, HL3) := by
  have a1 := h.1
  have a2 := h.2.1
  have hz : ((z.toNat : Nat) : Int) = z := by omega
  have hs := shl_p z.toNat (by omega)
  rw [hz] at hs
  have hp := p2_le z.toNat (by omega)
  intro d
  induction d with
  | zero =>
    intro σ U bz blo bhi bsl bT nz nr nb ne nT nN nG nLU nLL nHU nHL hσ
    have e : σ = 2 ^ z.toNat := by omega
    subst e
    have e0 : U + sumF (fun i => cv T z.toNat (2 * sl) lo hi (x : Int) (2 ^ z.toNat - 1 - i)) 0 (2 ^ z.toNat) = U := by
      show U + 0 = U
      omega
    rw [e0]
    exact ⟨bz, blo, bhi, bsl, bT, nz, nr, nb, ne, nT, nN, nG, nLU, nLL, nHU, nHL, rfl⟩
  | succ d ih =>
    intro σ U bz blo bhi bsl bT nz nr nb ne nT nN nG nLU nLL nHU nHL hσ
    have hcc : 2 ^ z.toNat - 1 - (2 ^ z.toNat - 1 - σ) = σ := by omega
    have hw := w_eq z.toNat (by omega) (2 ^ z.toNat - 1 - σ) (by omega) x hx
    have hwb := wdn_bd z.toNat (by omega) (2 ^ z.toNat - 1 - σ) (by omega) x hx
    have hbc := bc_bd z.toNat (by omega) σ (by omega)
    rw [hcc, hz] at hw
    have eb := bc_s σ (by omega)
    have e1 := e_power (b := 10 - (x : Int)) (e := bc σ) hbc.1 (by omega)
    have e2 := e_power (b := (x : Int)) (e := z - bc σ) (by omega) (by omega)
    have r1 : zR (σ : Int) := ⟨by omega, by omega⟩
    have r2 : zR ((2 ^ z.toNat : Nat) : Int) := ⟨by omega, by omega⟩
    have ecv : cv T z.toNat (2 * sl) lo hi (x : Int) (2 ^ z.toNat - 1 - σ) = if 0 < wdn (x : Int) (2 ^ z.toNat - 1 - σ) z.toNat 1 ∧ oneL T z.toNat (2 * sl) lo hi σ = 1 then wdn (x : Int) (2 ^ z.toNat - 1 - σ) z.toNat 1 else 0 := by
      unfold cv
      rw [hcc]
    have rw1 : zR (wdn (x : Int) (2 ^ z.toNat - 1 - σ) z.toNat 1) := ⟨by omega, by omega⟩
    have es : sumF (fun i => cv T z.toNat (2 * sl) lo hi (x : Int) (2 ^ z.toNat - 1 - i)) (d + 1) σ = cv T z.toNat (2 * sl) lo hi (x : Int) (2 ^ z.toNat - 1 - σ) + sumF (fun i => cv T z.toNat (2 * sl) lo hi (x : Int) (2 ^ z.toNat - 1 - i)) d (σ + 1) := rfl
    rw [es, ecv]
    generalize hW : wdn (x : Int) (2 ^ z.toNat - 1 - σ) z.toNat 1 = W at hw hwb rw1
    by_cases c1 : W ≤ 0
    · rw [if_neg (by omega)]
      obtain ⟨z2, lo2, hi2, sl2, bT2, z3, s3, b3, e3, T3, N3, G3, LU3, LL3, HU3, HL3, i⟩ := ih (σ + 1) U bz blo bhi bsl bT nz nr nb ne nT nN nG nLU nLL nHU nHL (by omega)
      refine ⟨z2, lo2, hi2, sl2, bT2, z3, s3, b3, e3, T3, N3, G3, LU3, LL3, HU3, HL3, ?_⟩
      rw [Int.zero_add, ← i, show ((σ + 1 : Nat) : Int) = (σ : Int) + 1 by omega]
      refine zev_inl ?_
      unfold st_X6_odds
      dsimp only
      rw [hs, gd_t ⟨r1, r2⟩, if_pos (by omega), eb, Option.bind_some, e1, Option.bind_some, e2, Option.bind_some, zlt_t, ← hw, gd_t rw1, if_pos c1]
    · obtain ⟨z1, lo1, hi1, sl1, bT1, z4, s4, b4, e4, T4, N4, G4, LU4, LL4, HU4, HL4, el⟩ := e_leavesOne bz blo bhi bsl bT nz nr nb ne nT nN nG nLU nLL nHU nHL (σ := σ) h (by omega)
      by_cases c2 : oneL T z.toNat (2 * sl) lo hi σ = 1
      · rw [if_pos ⟨by omega, c2⟩]
        rw [if_pos c2] at el
        obtain ⟨z2, lo2, hi2, sl2, bT2, z3, s3, b3, e3, T3, N3, G3, LU3, LL3, HU3, HL3, i⟩ := ih (σ + 1) (U + W) z1 lo1 hi1 sl1 bT1 z4 s4 b4 e4 T4 N4 G4 LU4 LL4 HU4 HL4 (by omega)
        refine ⟨z2, lo2, hi2, sl2, bT2, z3, s3, b3, e3, T3, N3, G3, LU3, LL3, HU3, HL3, ?_⟩
        rw [← Int.add_assoc, ← i, show ((σ + 1 : Nat) : Int) = (σ : Int) + 1 by omega]
        refine zev_inl ?_
        unfold st_X6_odds
        dsimp only
        rw [hs, gd_t ⟨r1, r2⟩, if_pos (by omega), eb, Option.bind_some, e1, Option.bind_some, e2, Option.bind_some, zlt_t, ← hw, gd_t rw1, if_neg c1, el, Option.bind_some]
        dsimp only
        rw [gd_t zRone, if_neg (by omega), zlt_t]
      · rw [if_neg (fun q => c2 q.2)]
        rw [if_neg c2] at el
        obtain ⟨z2, lo2, hi2, sl2, bT2, z3, s3, b3, e3, T3, N3, G3, LU3, LL3, HU3, HL3, i⟩ := ih (σ + 1) U z1 lo1 hi1 sl1 bT1 z4 s4 b4 e4 T4 N4 G4 LU4 LL4 HU4 HL4 (by omega)
        refine ⟨z2, lo2, hi2, sl2, bT2, z3, s3, b3, e3, T3, N3, G3, LU3, LL3, HU3, HL3, ?_⟩
        rw [Int.zero_add, ← i, show ((σ + 1 : Nat) : Int) = (σ : Int) + 1 by omega]
        refine zev_inl ?_
        unfold st_X6_odds
        dsimp only
        rw [hs, gd_t ⟨r1, r2⟩, if_pos (by omega), eb, Option.bind_some, e1, Option.bind_some, e2, Option.bind_some, zlt_t, ← hw, gd_t rw1, if_neg c1, el, Option.bind_some]
        dsimp only
        rw [gd_t zR0, if_pos rfl]
theorem nth_g {l r : List Int} {i : Nat} (h : l.length ≤ i) : nth (l ++ r) i = nth r (i - l.length) := by
  rw [nth_app, if_neg (by omega)]
def rL (R : Nat → Int) (lo hi sl : Int) (Q : List Int) : Prop := R 0 = (Q.length : Int) ∧ R 1 = lo ∧ R 2 = hi ∧ R 3 = sl ∧ ∀ i : Nat, i < Q.length → R (4 + i) = nth Q i
theorem m_in {n σ : Nat} {T R : Nat → Int} {lo hi sl p2 x x3 x4 mth lev : Int} {H N LU LD HU HD : Nat → Int} (hn : n ≤ 7) (hσ : σ < 2 ^ n) : ∀ (a d : Nat) (v : Int) (Fr : Nat → Int), a + d = n → rL Fr lo hi sl (pre T a ++ ku T (2 ^ n - 1 - σ) d a) → ∃ Fr2 : Nat → Int, rL Fr2 lo hi sl (kp T (2 ^ n - 1 - σ) n) ∧ zev (st_X7_odds x p2 R) (1, x3, x4, (σ : Int), v, (a : Int) - 1, mth, lev, Fr, H, N, LU, LD, HU, HD) = zev (st_X7_odds x p2 R) (1, x3, x4, (σ : Int), wdn x σ a v, -1, mth, lev, Fr2, H, N, LU, LD, HU, HD) := by
  have hp := p2_le n (by omega)
  intro a
  induction a with
  | zero =>
    intro d v Fr h hr
    refine ⟨Fr, ?_, rfl⟩
    have e := kp_ku T (2 ^ n - 1 - σ) d 0
    rw [h] at e
    rw [← e]
    exact hr
  | succ a ih =>
    intro d v Fr h hr
    have hz := bt_z σ (by omega) a (by omega)
    have hco := bt_co n (by omega) σ hσ a (by omega)
    have hkl := ku_len T (2 ^ n - 1 - σ) d (a + 1)
    have hpl := pre_len T a
    have ew : wdn x σ (a + 1) v = wdn x σ a (v * (if bt σ a = true then x else 10 - x)) := rfl
    have ra : zR ((a : Int)) := ⟨by omega, by omega⟩
    rw [ew, show ((a + 1 : Nat) : Int) - 1 = (a : Int) by omega]
    have el : pre T (a + 1) ++ ku T (2 ^ n - 1 - σ) d (a + 1) = pre T a ++ ([T a] ++ ku T (2 ^ n - 1 - σ) d (a + 1)) := by
      show (pre T a ++ [T a]) ++ _ = _
      rw [List.append_assoc]
    rw [el] at hr
    by_cases b : bt σ a = true
    · rw [if_pos b] at hz ⊢
      have hb2 : ¬ bt (2 ^ n - 1 - σ) a = true := by
        rw [hco, b]
        exact Bool.false_ne_true
      have ek : ku T (2 ^ n - 1 - σ) (d + 1) a = ku T (2 ^ n - 1 - σ) d (a + 1) := by
        simp only [ku]
        rw [if_neg hb2, List.nil_append]
      obtain ⟨h0, h1, h2, h3, h4⟩ := hr
      have hlen : (pre T a ++ ([T a] ++ ku T (2 ^ n - 1 - σ) d (a + 1))).length = a + 1 + (ku T (2 ^ n - 1 - σ) d (a + 1)).length := by
        rw [List.length_append, List.length_append, hpl]
        simp only [List.length_cons, List.length_nil]
        omega
      have hlen2 : (pre T a ++ ku T (2 ^ n - 1 - σ) d (a + 1)).length = a + (ku T (2 ^ n - 1 - σ) d (a + 1)).length := by
        rw [List.length_append, hpl]
      rw [hlen] at h0 h4
      obtain ⟨R2, ed, d0, d1, d2, d3, d4, d5⟩ := e_rdrop (p1 := (a : Int)) (R := Fr) (by omega) (by omega) (by omega)
      dsimp only at d4 d5
      rw [Int.toNat_natCast] at d4 d5
      obtain ⟨F2, g1, g2⟩ := ih (d + 1) (v * x) R2 (by omega) (by
        rw [ek]
        refine ⟨by rw [hlen2, d0, h0]; omega, d1.trans h1, d2.trans h2, d3.trans h3, fun i hil => ?_⟩
        rw [hlen2] at hil
        by_cases c : i < a
        · rw [d4 i c, h4 i (by omega), nth_r (by omega), nth_r (by omega)]
        · rw [d5 i (by omega) (by omega), h4 (i + 1) (by omega), nth_g (l := pre T a) (i := i + 1) (by omega), nth_g (l := pre T a) (i := i) (by omega), nth_g (l := [T a]) (by rw [List.length_singleton]; omega), List.length_singleton, hpl, show i + 1 - a - 1 = i - a by omega])
      refine ⟨F2, g1, ?_⟩
      rw [← g2]
      refine zev_inl ?_
      simp only [st_X7_odds]
      rw [gd_t ra, if_neg (by omega), hz, gd_t ⟨zRone, zRone⟩, if_pos rfl, zlt_t, ed, Option.bind_some]
      rfl
    · rw [if_neg b] at hz ⊢
      have hb2 : bt (2 ^ n - 1 - σ) a = true := by
        rw [hco]
        cases hh : bt σ a
        · rfl
        · exact absurd hh b
      have ek : ku T (2 ^ n - 1 - σ) (d + 1) a = [T a] ++ ku T (2 ^ n - 1 - σ) d (a + 1) := by
        simp only [ku]
        rw [if_pos hb2]
      obtain ⟨F2, g1, g2⟩ := ih (d + 1) (v * (10 - x)) Fr (by omega) (by rw [ek]; exact hr)
      refine ⟨F2, g1, ?_⟩
      rw [← g2]
      refine zev_inl ?_
      simp only [st_X7_odds]
      rw [gd_t ra, if_neg (by omega), hz, gd_t ⟨zR0, zRone⟩, if_neg (by omega), zlt_t]
      rfl
