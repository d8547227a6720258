/-! PURE: one arrival more behind the last -/
theorem cIt_congr {k : Nat} {t nT nN nG nLU nLL nHU nHL nT2 nN2 nG2 LU2 LL2 HU2 HL2 : Nat → Int} {s lo hi nb ne : Int} {L : List (List Int × zB)} (h : cIt k t s lo hi nb ne nT nN nG nLU nLL nHU nHL L) (h1 : ∀ i : Nat, i < k → nT2 i = nT i) (h2 : ∀ i : Nat, i < k → nN2 i = nN i) (h3 : ∀ i : Nat, i < k → nG2 i = nG i) (h4 : ∀ i : Nat, i < k → bx LU2 LL2 HU2 HL2 i = bx nLU nLL nHU nHL i) : cIt k t s lo hi nb ne nT2 nN2 nG2 LU2 LL2 HU2 HL2 L := by
  obtain ⟨hT, h⟩ := h
  refine ⟨fun i hik => (h1 i hik).trans (hT i hik), ?_⟩
  rcases h with h | ⟨q1, q2, q3, q4, q5, q6⟩ | h | ⟨q1, q2, q3, ⟨q4, q4'⟩, q5, q6, q7⟩
  · exact Or.inl h
  · exact Or.inr (Or.inl ⟨q1, q2, q3, (h2 0 q3).trans q4, (h4 0 q3).trans q5, q6⟩)
  · exact Or.inr (Or.inr (Or.inl h))
  · obtain ⟨c1, c2⟩ := cR_congr (t := t) (s := s) (k := k) (N := nN2) (N2 := nN) (B := bx LU2 LL2 HU2 HL2) (B2 := bx nLU nLL nHU nHL) (k - 1) (fun i hik => h2 i (by omega)) (fun i hik => h4 i (by omega))
    refine Or.inr (Or.inr (Or.inr ⟨q1, q2, q3, ⟨fun i hik => ?_, fun hk => ?_⟩, fun i hi0 hik => ?_, by rw [c1]; exact q6, by rw [c2]; exact q7⟩))
    · rw [h4 i (by omega), pre_congr (N2 := nN) (i + 1) (fun j hj => h2 j (by omega))]
      exact q4 i hik
    · rw [h2 (k - 1 - 1) (by omega), h2 (k - 1) (by omega)]
      exact q4' hk
    · rw [h3 i hik, h4 (i - 1) (by omega)]
      exact q5 i hi0 hik
theorem bfold_congr {t t2 : Nat → Int} {s : Int} {ν : List Int} {a : Nat} {b : zB} (h : ∀ i : Nat, i ≤ a → t i = t2 i) : ∀ j : Nat, j ≤ a → bfold t s ν a j b = bfold t2 s ν a j b := by
  intro j
  induction j with
  | zero => intro _; rfl
  | succ j ih =>
    intro hj
    simp only [bfold]
    rw [ih (by omega), h a (Nat.le_refl a), h j (by omega)]
theorem tE_congr {t t2 : Nat → Int} {s : Int} : ∀ (d : Nat) (ν : List Int) (b : zB), (∀ i : Nat, i < ν.length + d → t i = t2 i) → tE t s d ν b = tE t2 s d ν b := by
  intro d
  induction d with
  | zero => intro ν b _; rfl
  | succ d ih =>
    intro ν b h
    have e : ∀ n : Int, tb t s ν b n = tb t2 s ν b n := fun n => by
      unfold tb
      exact bfold_congr (fun i hia => h i (by omega)) _ (Nat.le_refl _)
    simp only [tE]
    rw [h ν.length (by omega), h 0 (by omega)]
    congr 1
    funext n
    rw [e n, ih (ν ++ [n]) (tb t2 s ν b n) (fun i hil => h i (by
      have : (ν ++ [n]).length = ν.length + 1 := by simp
      omega))]
theorem tE_app {t : Nat → Int} {s : Int} : ∀ (d : Nat) (ν : List Int) (b : zB), tE t s (d + 1) ν b = (tE t s d ν b).flatMap (fun w => tE t s 1 w.1 w.2) := by
  intro d
  induction d with
  | zero =>
    intro ν b
    show _ = [(ν, b)].flatMap _
    rw [List.flatMap_cons, List.flatMap_nil, List.append_nil]
  | succ d ih =>
    intro ν b
    have e1 : tE t s (d + 1 + 1) ν b = (cands (bG b (t ν.length - t 0) s - tN ν).toNat (tN ν)).flatMap (fun n => if bemp (tb t s ν b n) = true then [] else tE t s (d + 1) (ν ++ [n]) (tb t s ν b n)) := rfl
    have e2 : tE t s (d + 1) ν b = (cands (bG b (t ν.length - t 0) s - tN ν).toNat (tN ν)).flatMap (fun n => if bemp (tb t s ν b n) = true then [] else tE t s d (ν ++ [n]) (tb t s ν b n)) := rfl
    rw [e1, e2, List.flatMap_assoc]
    congr 1
    funext n
    by_cases h : bemp (tb t s ν b n) = true
    · rw [if_pos h, if_pos h, List.flatMap_nil]
    · rw [if_neg h, if_neg h, ih]
theorem tI_congr {t t2 : Nat → Int} {s lo hi : Int} {ν : List Int} {b : zB} (h : tI t s lo hi ν b) (e : ∀ i : Nat, i < ν.length → t2 i = t i) : tI t2 s lo hi ν b := by
  obtain ⟨h1, h2, h3, h4, h5, h6, h7, h8, h9⟩ := h
  refine ⟨h1, h2, h3, h4, h5, h6, h7, h8, fun i j hij hj => ?_⟩
  rw [e i (by omega), e j hj]
  exact h9 i j hij hj
/-- the times with one more at place k -/
def tx (t : Nat → Int) (k : Nat) (τ : Int) : Nat → Int := fun i => if i = k then τ else t i
theorem tx_e {t : Nat → Int} {k : Nat} {τ : Int} : tx t k τ k = τ := if_pos rfl
theorem tx_n {t : Nat → Int} {k i : Nat} {τ : Int} (h : i ≠ k) : tx t k τ i = t i := if_neg h
def fur (t : Nat → Int) (s : Int) (k : Nat) (τ : Int) (w : List Int × zB) : Nat := (tE (tx t k τ) s 1 w.1 w.2).length
theorem tA_fur {k : Nat} {t : Nat → Int} {s lo hi τ : Int} (hk : 0 < k) : (tA (k + 1) (tx t k τ) s lo hi).length = ((tA k t s lo hi).map (fur t s k τ)).sum := by
  unfold tA
  rw [if_neg (by omega), if_neg (by omega), Nat.add_sub_cancel, show k = k - 1 + 1 by omega, Nat.add_sub_cancel, tE_app, List.length_flatMap]
  rw [show k - 1 + 1 = k by omega]
  rw [tE_congr (t := tx t k τ) (t2 := t) (k - 1) [0] (lo, 1, hi, 1) (fun i hil => tx_n (by simp only [List.length_cons, List.length_nil] at hil; omega))]
  rfl
theorem e_furLoop {k : Nat} {t nT nG : Nat → Int} {s lo hi : Int} {ν : List Int} {b : zB} (C : zCt (k + 1) t s lo hi) (hk : 0 < k) (hT : ∀ i : Nat, i < k + 1 → nT i = t i) (hI : tI t s lo hi ν b) (hl : ν.length = k) (hG : nG k = bG b (t k - t 0) s) : ∀ (c : Nat) (m x2 : Int) (N LU LL HU HL : Nat → Int), (bG b (t k - t 0) s - m).toNat = c → tN ν ≤ m → m ≤ 3000000 → pre N k = ν → bx LU LL HU HL (k - 1) = b → ∃ (N2 LU2 LL2 HU2 HL2 : Nat → Int), zev (st_X2_further (k : Int) s) (x2, m + 1, nT, N, nG, LU, LL, HU, HL) = some (x2 + (((cands (bG b (t k - t 0) s - m).toNat m).flatMap (tF t s 0 ν b)).length : Int), nT, N2, nG, LU2, LL2, HU2, HL2) ∧ (∀ i : Nat, i < k → N2 i = N i) ∧ ∀ i : Nat, i < k → bx LU2 LL2 HU2 HL2 i = bx LU LL HU HL i := by
  have hk6 : k + 1 ≤ 7 := C.1
  intro c
  induction c with
  | zero =>
    intro m x2 N LU LL HU HL hc hm hm3 hp hb
    have hGb := bG_bd (a := k) C hI (by omega) hk
    refine ⟨N, LU, LL, HU, HL, ?_, fun _ _ => rfl, fun _ _ => rfl⟩
    rw [cands_nil (by omega), List.flatMap_nil]
    have hx : x2 + (([] : List (List Int × zB)).length : Int) = x2 := by simp
    rw [hx]
    have h0 := tI_nth hI hI.1
    exact zev_inr (by simp (disch := omega) only [st_X2_further, gd_t, Int.toNat_natCast, hG, if_neg])
  | succ c ih =>
    intro m x2 N LU LL HU HL hc hm hm3 hp hb
    have hGb := bG_bd (a := k) C hI (by omega) hk
    have h0 := tI_nth hI hI.1
    have ez : zup N (k : Int) (m + 1) k = m + 1 := zup_s (by omega)
    have ez1 : zup N (k : Int) (m + 1) (k - 1) = N (k - 1) := zup_n (by omega)
    have ep : pre (zup N (k : Int) (m + 1)) k = ν := by
      rw [← hp]
      exact pre_congr k (fun i hik => zup_n (by omega))
    have etN : tN ν = N (k - 1) := by rw [← hp, pre_tN N hk]
    obtain ⟨r, LU2, LL2, HU2, HL2, ef, fo, fr⟩ := e_fits (nN := zup N (k : Int) (m + 1)) (nT := nT) (nLU := LU) (nLL := LL) (nHU := HU) (nHL := HL) (a := k) C hk (by omega) hT (by rw [ep, hb]; exact hI) (by rw [ez, ez1]; omega) (by rw [ez, hb]; omega)
    rw [ep, ez, hb] at fr
    rw [cands_cons (by omega), List.flatMap_cons, List.length_append]
    have hb2 : bx LU2 LL2 HU2 HL2 (k - 1) = b := by rw [fo (k - 1) (by omega)]; exact hb
    rcases fr with ⟨rfl, he, -⟩ | ⟨rfl, he⟩
    · obtain ⟨N3, LU3, LL3, HU3, HL3, i1, i2, i3⟩ := ih (m + 1) (x2 + 1) (zup N (k : Int) (m + 1)) LU2 LL2 HU2 HL2 (by omega) (by omega) (by omega) ep hb2
      refine ⟨N3, LU3, LL3, HU3, HL3, ?_, fun i hik => by rw [i2 i hik, zup_n (by omega)], fun i hik => by rw [i3 i hik, fo i (by omega)]⟩
      have e1 : (tF t s 0 ν b (m + 1)).length = 1 := by
        unfold tF
        rw [if_neg (by rw [he]; exact Bool.false_ne_true)]
        rfl
      rw [e1]
      have s1 : zev (st_X2_further (k : Int) s) (x2, m + 1, nT, N, nG, LU, LL, HU, HL) = zev (st_X2_further (k : Int) s) (x2 + 1, m + 1 + 1, nT, zup N (k : Int) (m + 1), nG, LU2, LL2, HU2, HL2) := zev_inl (by simp (disch := omega) only [st_X2_further, gd_t, Int.toNat_natCast, hG, if_pos, if_neg, ef, Option.bind_some])
      rw [s1, i1]
      congr 2
      omega
    · obtain ⟨N3, LU3, LL3, HU3, HL3, i1, i2, i3⟩ := ih (m + 1) x2 (zup N (k : Int) (m + 1)) LU2 LL2 HU2 HL2 (by omega) (by omega) (by omega) ep hb2
      refine ⟨N3, LU3, LL3, HU3, HL3, ?_, fun i hik => by rw [i2 i hik, zup_n (by omega)], fun i hik => by rw [i3 i hik, fo i (by omega)]⟩
      have e1 : (tF t s 0 ν b (m + 1)).length = 0 := by
        unfold tF
        rw [if_pos he]
        rfl
      rw [e1]
      have s1 : zev (st_X2_further (k : Int) s) (x2, m + 1, nT, N, nG, LU, LL, HU, HL) = zev (st_X2_further (k : Int) s) (x2, m + 1 + 1, nT, zup N (k : Int) (m + 1), nG, LU2, LL2, HU2, HL2) := zev_inl (by simp (disch := omega) only [st_X2_further, gd_t, Int.toNat_natCast, hG, if_pos, if_true, ef, Option.bind_some])
      rw [s1, i1]
      congr 2
      omega
theorem e_further {k : Nat} {t nT nN nG nLU nLL nHU nHL : Nat → Int} {s lo hi τ : Int} {w : List Int × zB} (C : zCt (k + 1) (tx t k τ) s lo hi) (hk : 0 < k) (hT : ∀ i : Nat, i < k → nT i = t i) (hI : tI t s lo hi w.1 w.2) (hl : w.1.length = k) (hp : pre nN k = w.1) (hb : bx nLU nLL nHU nHL (k - 1) = w.2) : ∃ (N2 G2 LU2 LL2 HU2 HL2 : Nat → Int), f_X2_further τ (k : Int) s nT nN nG nLU nLL nHU nHL = some ((fur t s k τ w : Int), zup nT (k : Int) τ, N2, G2, LU2, LL2, HU2, HL2) ∧ (∀ i : Nat, i < k → N2 i = nN i) ∧ (∀ i : Nat, i < k → G2 i = nG i) ∧ ∀ i : Nat, i < k → bx LU2 LL2 HU2 HL2 i = bx nLU nLL nHU nHL i := by
  have hk6 : k + 1 ≤ 7 := C.1
  have hI2 : tI (tx t k τ) s lo hi w.1 w.2 := tI_congr hI (fun i hil => tx_n (by omega))
  have hT2 : ∀ i : Nat, i < k + 1 → zup nT (k : Int) τ i = tx t k τ i := fun i hik => by
    by_cases e : i = k
    · rw [zup_s (by omega), e, tx_e]
    · rw [zup_n (by omega), tx_n e]; exact hT i (by omega)
  have eo := e_open (nN := nN) (nG := nG) (nLU := nLU) (nLL := nLL) (nHU := nHU) (nHL := nHL) (nT := zup nT (k : Int) τ) (a := k) C hk (by omega) hT2 (by rw [hp, hb]; exact hI2)
  rw [hp, hb] at eo
  have htN := (tI_nth hI2 hI2.1)
  have h320 := hI2.2.2.2.1
  have hLb := bL_bd (a := k) C hI2 (by omega) hk
  have hM : tN w.1 ≤ tM (tx t k τ) s w.1 w.2 ∧ tM (tx t k τ) s w.1 w.2 ≤ 3000000 := by
    unfold tM
    rw [hl]
    omega
  have esk := tE_skip C hI2 (by omega) 0
  rw [hl] at esk
  generalize hMv : tM (tx t k τ) s w.1 w.2 = Mv at eo hM esk
  have hGk : zup nG (k : Int) (bG w.2 (tx t k τ k - tx t k τ 0) s) k = bG w.2 (tx t k τ k - tx t k τ 0) s := zup_s (by omega)
  have hNk : zup nN (k : Int) Mv k = Mv := zup_s (by omega)
  obtain ⟨N3, LU3, LL3, HU3, HL3, i1, i2, i3⟩ := e_furLoop (nG := zup nG (k : Int) (bG w.2 (tx t k τ k - tx t k τ 0) s)) C hk hT2 hI2 hl hGk _ Mv 0 (zup nN (k : Int) Mv) nLU nLL nHU nHL rfl hM.1 hM.2 (by rw [← hp]; exact pre_congr k (fun i hik => zup_n (by omega))) hb
  refine ⟨N3, zup nG (k : Int) (bG w.2 (tx t k τ k - tx t k τ 0) s), LU3, LL3, HU3, HL3, ?_, fun i hik => by rw [i2 i hik, zup_n (by omega)], fun i hik => zup_n (by omega), i3⟩
  have ef : (fur t s k τ w : Int) = 0 + (((cands (bG w.2 (tx t k τ k - tx t k τ 0) s - Mv).toNat Mv).flatMap (tF (tx t k τ) s 0 w.1 w.2)).length : Int) := by
    unfold fur
    rw [show (1 : Nat) = 0 + 1 by rfl, esk]
    omega
  rw [ef, ← i1]
  simp (disch := omega) only [f_X2_further, gd_t, if_neg, if_pos, eo, Option.bind_some, Int.toNat_natCast, hNk, zlt_t]
